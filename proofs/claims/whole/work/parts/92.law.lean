def cTL (h : Nat → Nat) (r : Nat → Nat → Nat) (q : Nat → Nat → Nat → Nat) (cs : Nat → ClassId) (U : CS) : Nat → va_W
  | 0 => WO11 (fun i => h (0 + i)) (r 0) cs (U 0)
  | 1 => W8 (h 1) (r 1) cs (U 1)
  | 2 => W3 (h 2) (rE r (gI (U 24) 0) 2) cs (U 2)
  | 3 => W2 (h 3) (r 3) (q 3) cs (U 3)
  | 4 => W2 (h 4) (r 4) (q 4) cs (U 4)
  | 5 => W2 (h 5) (r 5) (q 5) cs (U 5)
  | 6 => W4 (h 6) (r 6) (q 6) cs (U 6)
  | 7 => W9 (h 7) (r 7) (q 7) cs (U 7)
  | 8 => W5 (h 8) (r 8) (q 8) cs (U 8)
  | 9 => W7 (h 9) (r 9) cs (U 9)
  | 10 => WO10 (fun i => h (10 + i)) (r 10) cs (U 10)
  | 11 => W7 (h 11) (r 11) cs (U 11)
  | 12 => W7 (h 12) (r 12) cs (U 12)
  | 13 => WO1 (fun i => h (13 + i)) (r 13) cs (U 13)
  | 14 => W7 (h 14) (r 14) cs (U 14)
  | 15 => WO1 (fun i => h (15 + i)) (r 15) cs (U 15)
  | 16 => W7 (h 16) (r 16) cs (U 16)
  | 17 => W0 (h 17) (r 17) cs (U 17)
  | 18 => W6 (h 18) (r 18) cs (U 18)
  | 19 => W6 (h 19) (r 19) cs (U 19)
  | 20 => W6 (h 20) (r 20) cs (U 20)
  | 21 => W6 (h 21) (r 21) cs (U 21)
  | 22 => W6 (h 22) (r 22) cs (U 22)
  | 23 => W6 (h 23) (r 23) cs (U 23)
  | 24 => []
  | 25 => W12 (h 25) (r 25) cs (U 25)
  | _ => []
def VL (h : Nat → Nat) (r : Nat → Nat → Nat) (q : Nat → Nat → Nat → Nat) (cs : Nat → ClassId) (U : CS) : va_W := [0, 1, 2, 3, 4, 5, 6, 7, 8, 9, 10, 11, 12, 13, 14, 15, 16, 17, 18, 19, 20, 21, 22, 23, 24, 25].flatMap (cTL h r q cs U)

def embT (U v : CS) : CS := fun k => if k < 25 then v k else U k
theorem embT_self (U : CS) : embT U U = U := by
  funext k
  unfold embT
  split <;> rfl
theorem VL_T (h : Nat → Nat) (r : Nat → Nat → Nat) (q : Nat → Nat → Nat → Nat) (cs : Nat → ClassId) (U : CS) : ∀ v : CS, (VL h r q cs (embT U v)).Perm ([] ++ (VT h r q cs v ++ [25].flatMap (cTL h r q cs U))) := fun v => (front_perm (cTL h r q cs (embT U v)) (l := [0, 1, 2, 3, 4, 5, 6, 7, 8, 9, 10, 11, 12, 13, 14, 15, 16, 17, 18, 19, 20, 21, 22, 23, 24, 25]) (ks := [0, 1, 2, 3, 4, 5, 6, 7, 8, 9, 10, 11, 12, 13, 14, 15, 16, 17, 18, 19, 20, 21, 22, 23, 24]) (rest := [25]) (by decide)).trans (List.Perm.of_eq rfl)
theorem VL_c25 (h : Nat → Nat) (r : Nat → Nat → Nat) (q : Nat → Nat → Nat → Nat) (cs : Nat → ClassId) (U : CS) : ∀ v : ST, (VL h r q cs (mu U 25 v)).Perm ([] ++ (W12 (h 25) (r 25) cs v ++ [0, 1, 2, 3, 4, 5, 6, 7, 8, 9, 10, 11, 12, 13, 14, 15, 16, 17, 18, 19, 20, 21, 22, 23, 24].flatMap (cTL h r q cs U))) := fun v => (front_perm (cTL h r q cs (mu U 25 v)) (l := [0, 1, 2, 3, 4, 5, 6, 7, 8, 9, 10, 11, 12, 13, 14, 15, 16, 17, 18, 19, 20, 21, 22, 23, 24, 25]) (ks := [25]) (rest := [0, 1, 2, 3, 4, 5, 6, 7, 8, 9, 10, 11, 12, 13, 14, 15, 16, 17, 18, 19, 20, 21, 22, 23, 24]) (by decide)).trans (List.Perm.of_eq (by rw [show [25].flatMap (cTL h r q cs (mu U 25 v)) = W12 (h 25) (r 25) cs v from List.append_nil _]; rfl))
abbrev mGoL (p : Program) (l : Launch) (e : Env) (s : State) (m : MethodId) (b : Addr) (below : List Frame) (meth : Method) (c : Code) (D : va_G) (cs : Nat → ClassId) (h : Nat → Nat) (r : Nat → Nat → Nat) (q : Nat → Nat → Nat → Nat) (pc : Nat) (lv : List (Nat × Value)) (st : List Value) (U : CS) : Prop :=
  ∀ (H : Heap) (locs : List Loc) (ls : Array Slot), mI D (mT cs) (fun q : Nat => s.heap.size ≤ q) s.heap s (VL h r q cs U) H locs → lv_has ls 4 lv → W p l e room_1 s m #[Value.ref b] below meth c H locs 600000 7302250 (lw_Z below #[Value.ref b] s) (F0 m pc ls st)
def wp_L_law_p1386 (L : Nat) (xs : Nat → Int32) (x3 : Int32) (u : CS) (B18 : Int32 → CS → Prop) (Q : Int32 → CS → Prop) : Prop :=
  (∀ y1386 : Int32, y1386 = x3 + 6 → B18 y1386 u)
def wp_L_law_p18b (L : Nat) (xs : Nat → Int32) (x3 : Int32) (u : CS) (B18 : Int32 → CS → Prop) (Q : Int32 → CS → Prop) : Prop :=
  (∀ y23 : Int32, y23 = (Int32.ofNat L) - (6 : Int32) → ((y23 < x3 → ((1 : Int32) &&& 1 = (1 : Int32) ∧ Q (1 : Int32) u)) ∧ (¬ y23 < x3 → (vp_in x3 L ∧ ∀ y29 : Int32, y29 = xs x3.toNatClampNeg → (∀ y32 : Int32, y32 = y29 &&& (63 : Int32) → ((y32 = 0 → (∀ y204 : Int32, y204 = x3 + (1 : Int32) → (vp_in y204 L ∧ ∀ y205 : Int32, y205 = xs y204.toNatClampNeg → (∀ y209 : Int32, y209 = x3 + (2 : Int32) → (vp_in y209 L ∧ ∀ y210 : Int32, y210 = xs y209.toNatClampNeg → (wp_X11_mend y205 y210 u (fun y211 v211 => ∀ u211 : CS, u211 = embT u v211 → (∀ y218 : Int32, y218 = x3 + (1 : Int32) → (vp_in y218 L ∧ ∀ y219 : Int32, y219 = xs y218.toNatClampNeg → (∀ y223 : Int32, y223 = x3 + (2 : Int32) → (vp_in y223 L ∧ ∀ y224 : Int32, y224 = xs y223.toNatClampNeg → (wp_X12_mend y219 y224 (u211 25) (fun y225 v225 => ∀ u225 : CS, u225 = mu u211 25 v225 → ((y211 = y225 → wp_L_law_p1386 L xs x3 u225 B18 Q) ∧ (¬ y211 = y225 → ((0 : Int32) &&& 1 = (0 : Int32) ∧ Q (0 : Int32) u225)))))))))))))))) ∧ (¬ y32 = 0 → ((y32 = 1 → (∀ y237 : Int32, y237 = x3 + (1 : Int32) → (vp_in y237 L ∧ ∀ y238 : Int32, y238 = xs y237.toNatClampNeg → (wp_X11_of y238 u (fun y239 v239 => ∀ u239 : CS, u239 = embT u v239 → (∀ y246 : Int32, y246 = x3 + (1 : Int32) → (vp_in y246 L ∧ ∀ y247 : Int32, y247 = xs y246.toNatClampNeg → (wp_X12_of y247 (u239 25) (fun y248 v248 => ∀ u248 : CS, u248 = mu u239 25 v248 → ((y239 = y248 → wp_L_law_p1386 L xs x3 u248 B18 Q) ∧ (¬ y239 = y248 → ((0 : Int32) &&& 1 = (0 : Int32) ∧ Q (0 : Int32) u248)))))))))))) ∧ (¬ y32 = 1 → ((y32 = 2 → (∀ y260 : Int32, y260 = x3 + (1 : Int32) → (vp_in y260 L ∧ ∀ y261 : Int32, y261 = xs y260.toNatClampNeg → (wp_X11_feed y261 u (fun y262 v262 => ∀ u262 : CS, u262 = embT u v262 → (∀ y269 : Int32, y269 = x3 + (1 : Int32) → (vp_in y269 L ∧ ∀ y270 : Int32, y270 = xs y269.toNatClampNeg → (wp_X12_feed y270 (u262 25) (fun y271 v271 => ∀ u271 : CS, u271 = mu u262 25 v271 → ((y262 = y271 → wp_L_law_p1386 L xs x3 u271 B18 Q) ∧ (¬ y262 = y271 → ((0 : Int32) &&& 1 = (0 : Int32) ∧ Q (0 : Int32) u271)))))))))))) ∧ (¬ y32 = 2 → ((y32 = 3 → (wp_X11_law u (fun y280 v280 => ∀ u280 : CS, u280 = embT u v280 → (wp_X12_law (u280 25) (fun y284 v284 => ∀ u284 : CS, u284 = mu u280 25 v284 → ((y280 = y284 → wp_L_law_p1386 L xs x3 u284 B18 Q) ∧ (¬ y280 = y284 → ((0 : Int32) &&& 1 = (0 : Int32) ∧ Q (0 : Int32) u284)))))))) ∧ (¬ y32 = 3 → ((y32 = 4 → (∀ y296 : Int32, y296 = x3 + (1 : Int32) → (vp_in y296 L ∧ ∀ y297 : Int32, y297 = xs y296.toNatClampNeg → (wp_X11_weight y297 u (fun y298 v298 => ∀ u298 : CS, u298 = embT u v298 → (∀ y305 : Int32, y305 = x3 + (1 : Int32) → (vp_in y305 L ∧ ∀ y306 : Int32, y306 = xs y305.toNatClampNeg → (wp_X12_weight y306 (u298 25) (fun y307 v307 => ∀ u307 : CS, u307 = mu u298 25 v307 → ((y298 = y307 → wp_L_law_p1386 L xs x3 u307 B18 Q) ∧ (¬ y298 = y307 → ((0 : Int32) &&& 1 = (0 : Int32) ∧ Q (0 : Int32) u307)))))))))))) ∧ (¬ y32 = 4 → ((y32 = 5 → (∀ y319 : Int32, y319 = x3 + (1 : Int32) → (vp_in y319 L ∧ ∀ y320 : Int32, y320 = xs y319.toNatClampNeg → (∀ y324 : Int32, y324 = x3 + (2 : Int32) → (vp_in y324 L ∧ ∀ y325 : Int32, y325 = xs y324.toNatClampNeg → (wp_X11_worst y320 y325 u (fun y326 v326 => ∀ u326 : CS, u326 = embT u v326 → (∀ y333 : Int32, y333 = x3 + (1 : Int32) → (vp_in y333 L ∧ ∀ y334 : Int32, y334 = xs y333.toNatClampNeg → (∀ y338 : Int32, y338 = x3 + (2 : Int32) → (vp_in y338 L ∧ ∀ y339 : Int32, y339 = xs y338.toNatClampNeg → (wp_X12_worst y334 y339 (u326 25) (fun y340 v340 => ∀ u340 : CS, u340 = mu u326 25 v340 → ((y326 = y340 → wp_L_law_p1386 L xs x3 u340 B18 Q) ∧ (¬ y326 = y340 → ((0 : Int32) &&& 1 = (0 : Int32) ∧ Q (0 : Int32) u340)))))))))))))))) ∧ (¬ y32 = 5 → ((y32 = 6 → (∀ y352 : Int32, y352 = x3 + (1 : Int32) → (vp_in y352 L ∧ ∀ y353 : Int32, y353 = xs y352.toNatClampNeg → (wp_X11_reach y353 u (fun y354 v354 => ∀ u354 : CS, u354 = embT u v354 → (∀ y361 : Int32, y361 = x3 + (1 : Int32) → (vp_in y361 L ∧ ∀ y362 : Int32, y362 = xs y361.toNatClampNeg → (wp_X12_reach y362 (u354 25) (fun y363 v363 => ∀ u363 : CS, u363 = mu u354 25 v363 → ((y354 = y363 → wp_L_law_p1386 L xs x3 u363 B18 Q) ∧ (¬ y354 = y363 → ((0 : Int32) &&& 1 = (0 : Int32) ∧ Q (0 : Int32) u363)))))))))))) ∧ (¬ y32 = 6 → ((y32 = 7 → (∀ y375 : Int32, y375 = x3 + (1 : Int32) → (vp_in y375 L ∧ ∀ y376 : Int32, y376 = xs y375.toNatClampNeg → (∀ y380 : Int32, y380 = x3 + (2 : Int32) → (vp_in y380 L ∧ ∀ y381 : Int32, y381 = xs y380.toNatClampNeg → (∀ y385 : Int32, y385 = x3 + (3 : Int32) → (vp_in y385 L ∧ ∀ y386 : Int32, y386 = xs y385.toNatClampNeg → (wp_X11_mean y376 y381 y386 u (fun y387 v387 => ∀ u387 : CS, u387 = embT u v387 → (∀ y394 : Int32, y394 = x3 + (1 : Int32) → (vp_in y394 L ∧ ∀ y395 : Int32, y395 = xs y394.toNatClampNeg → (∀ y399 : Int32, y399 = x3 + (2 : Int32) → (vp_in y399 L ∧ ∀ y400 : Int32, y400 = xs y399.toNatClampNeg → (∀ y404 : Int32, y404 = x3 + (3 : Int32) → (vp_in y404 L ∧ ∀ y405 : Int32, y405 = xs y404.toNatClampNeg → (wp_X12_mean y395 y400 y405 (u387 25) (fun y406 v406 => ∀ u406 : CS, u406 = mu u387 25 v406 → ((y387 = y406 → wp_L_law_p1386 L xs x3 u406 B18 Q) ∧ (¬ y387 = y406 → ((0 : Int32) &&& 1 = (0 : Int32) ∧ Q (0 : Int32) u406)))))))))))))))))))) ∧ (¬ y32 = 7 → ((y32 = 8 → (∀ y418 : Int32, y418 = x3 + (1 : Int32) → (vp_in y418 L ∧ ∀ y419 : Int32, y419 = xs y418.toNatClampNeg → (∀ y423 : Int32, y423 = x3 + (2 : Int32) → (vp_in y423 L ∧ ∀ y424 : Int32, y424 = xs y423.toNatClampNeg → (wp_X11_meanFirst y419 y424 u (fun y425 v425 => ∀ u425 : CS, u425 = embT u v425 → (∀ y432 : Int32, y432 = x3 + (1 : Int32) → (vp_in y432 L ∧ ∀ y433 : Int32, y433 = xs y432.toNatClampNeg → (∀ y437 : Int32, y437 = x3 + (2 : Int32) → (vp_in y437 L ∧ ∀ y438 : Int32, y438 = xs y437.toNatClampNeg → (wp_X12_meanFirst y433 y438 (u425 25) (fun y439 v439 => ∀ u439 : CS, u439 = mu u425 25 v439 → ((y425 = y439 → wp_L_law_p1386 L xs x3 u439 B18 Q) ∧ (¬ y425 = y439 → ((0 : Int32) &&& 1 = (0 : Int32) ∧ Q (0 : Int32) u439)))))))))))))))) ∧ (¬ y32 = 8 → ((y32 = 9 → (∀ y451 : Int32, y451 = x3 + (1 : Int32) → (vp_in y451 L ∧ ∀ y452 : Int32, y452 = xs y451.toNatClampNeg → (∀ y456 : Int32, y456 = x3 + (2 : Int32) → (vp_in y456 L ∧ ∀ y457 : Int32, y457 = xs y456.toNatClampNeg → (∀ y461 : Int32, y461 = x3 + (3 : Int32) → (vp_in y461 L ∧ ∀ y462 : Int32, y462 = xs y461.toNatClampNeg → (wp_X11_trodden y452 y457 y462 u (fun y463 v463 => ∀ u463 : CS, u463 = embT u v463 → (∀ y470 : Int32, y470 = x3 + (1 : Int32) → (vp_in y470 L ∧ ∀ y471 : Int32, y471 = xs y470.toNatClampNeg → (∀ y475 : Int32, y475 = x3 + (2 : Int32) → (vp_in y475 L ∧ ∀ y476 : Int32, y476 = xs y475.toNatClampNeg → (∀ y480 : Int32, y480 = x3 + (3 : Int32) → (vp_in y480 L ∧ ∀ y481 : Int32, y481 = xs y480.toNatClampNeg → (wp_X12_trodden y471 y476 y481 (u463 25) (fun y482 v482 => ∀ u482 : CS, u482 = mu u463 25 v482 → ((y463 = y482 → wp_L_law_p1386 L xs x3 u482 B18 Q) ∧ (¬ y463 = y482 → ((0 : Int32) &&& 1 = (0 : Int32) ∧ Q (0 : Int32) u482)))))))))))))))))))) ∧ (¬ y32 = 9 → ((y32 = 10 → (∀ y494 : Int32, y494 = x3 + (1 : Int32) → (vp_in y494 L ∧ ∀ y495 : Int32, y495 = xs y494.toNatClampNeg → (∀ y499 : Int32, y499 = x3 + (2 : Int32) → (vp_in y499 L ∧ ∀ y500 : Int32, y500 = xs y499.toNatClampNeg → (wp_X11_price y495 y500 u (fun y501 v501 => ∀ u501 : CS, u501 = embT u v501 → (∀ y508 : Int32, y508 = x3 + (1 : Int32) → (vp_in y508 L ∧ ∀ y509 : Int32, y509 = xs y508.toNatClampNeg → (∀ y513 : Int32, y513 = x3 + (2 : Int32) → (vp_in y513 L ∧ ∀ y514 : Int32, y514 = xs y513.toNatClampNeg → (wp_X12_price y509 y514 (u501 25) (fun y515 v515 => ∀ u515 : CS, u515 = mu u501 25 v515 → ((y501 = y515 → wp_L_law_p1386 L xs x3 u515 B18 Q) ∧ (¬ y501 = y515 → ((0 : Int32) &&& 1 = (0 : Int32) ∧ Q (0 : Int32) u515)))))))))))))))) ∧ (¬ y32 = 10 → ((y32 = 11 → (∀ y527 : Int32, y527 = x3 + (1 : Int32) → (vp_in y527 L ∧ ∀ y528 : Int32, y528 = xs y527.toNatClampNeg → (∀ y532 : Int32, y532 = x3 + (2 : Int32) → (vp_in y532 L ∧ ∀ y533 : Int32, y533 = xs y532.toNatClampNeg → (∀ y537 : Int32, y537 = x3 + (3 : Int32) → (vp_in y537 L ∧ ∀ y538 : Int32, y538 = xs y537.toNatClampNeg → (wp_X11_two y528 y533 y538 u (fun y539 v539 => ∀ u539 : CS, u539 = embT u v539 → (∀ y546 : Int32, y546 = x3 + (1 : Int32) → (vp_in y546 L ∧ ∀ y547 : Int32, y547 = xs y546.toNatClampNeg → (∀ y551 : Int32, y551 = x3 + (2 : Int32) → (vp_in y551 L ∧ ∀ y552 : Int32, y552 = xs y551.toNatClampNeg → (∀ y556 : Int32, y556 = x3 + (3 : Int32) → (vp_in y556 L ∧ ∀ y557 : Int32, y557 = xs y556.toNatClampNeg → (wp_X12_two y547 y552 y557 (u539 25) (fun y558 v558 => ∀ u558 : CS, u558 = mu u539 25 v558 → ((y539 = y558 → wp_L_law_p1386 L xs x3 u558 B18 Q) ∧ (¬ y539 = y558 → ((0 : Int32) &&& 1 = (0 : Int32) ∧ Q (0 : Int32) u558)))))))))))))))))))) ∧ (¬ y32 = 11 → ((y32 = 12 → (∀ y570 : Int32, y570 = x3 + (1 : Int32) → (vp_in y570 L ∧ ∀ y571 : Int32, y571 = xs y570.toNatClampNeg → (∀ y575 : Int32, y575 = x3 + (2 : Int32) → (vp_in y575 L ∧ ∀ y576 : Int32, y576 = xs y575.toNatClampNeg → (∀ y580 : Int32, y580 = x3 + (3 : Int32) → (vp_in y580 L ∧ ∀ y581 : Int32, y581 = xs y580.toNatClampNeg → (wp_X11_ruled y571 y576 y581 u (fun y582 v582 => ∀ u582 : CS, u582 = embT u v582 → (∀ y589 : Int32, y589 = x3 + (1 : Int32) → (vp_in y589 L ∧ ∀ y590 : Int32, y590 = xs y589.toNatClampNeg → (∀ y594 : Int32, y594 = x3 + (2 : Int32) → (vp_in y594 L ∧ ∀ y595 : Int32, y595 = xs y594.toNatClampNeg → (∀ y599 : Int32, y599 = x3 + (3 : Int32) → (vp_in y599 L ∧ ∀ y600 : Int32, y600 = xs y599.toNatClampNeg → (wp_X12_ruled y590 y595 y600 (u582 25) (fun y601 v601 => ∀ u601 : CS, u601 = mu u582 25 v601 → ((y582 = y601 → wp_L_law_p1386 L xs x3 u601 B18 Q) ∧ (¬ y582 = y601 → ((0 : Int32) &&& 1 = (0 : Int32) ∧ Q (0 : Int32) u601)))))))))))))))))))) ∧ (¬ y32 = 12 → ((y32 = 13 → (∀ y613 : Int32, y613 = x3 + (1 : Int32) → (vp_in y613 L ∧ ∀ y614 : Int32, y614 = xs y613.toNatClampNeg → (∀ y618 : Int32, y618 = x3 + (2 : Int32) → (vp_in y618 L ∧ ∀ y619 : Int32, y619 = xs y618.toNatClampNeg → (∀ y623 : Int32, y623 = x3 + (3 : Int32) → (vp_in y623 L ∧ ∀ y624 : Int32, y624 = xs y623.toNatClampNeg → (wp_X11_step y614 y619 y624 u (fun y625 v625 => ∀ u625 : CS, u625 = embT u v625 → (∀ y632 : Int32, y632 = x3 + (1 : Int32) → (vp_in y632 L ∧ ∀ y633 : Int32, y633 = xs y632.toNatClampNeg → (∀ y637 : Int32, y637 = x3 + (2 : Int32) → (vp_in y637 L ∧ ∀ y638 : Int32, y638 = xs y637.toNatClampNeg → (∀ y642 : Int32, y642 = x3 + (3 : Int32) → (vp_in y642 L ∧ ∀ y643 : Int32, y643 = xs y642.toNatClampNeg → (wp_X12_step y633 y638 y643 (u625 25) (fun y644 v644 => ∀ u644 : CS, u644 = mu u625 25 v644 → ((y625 = y644 → wp_L_law_p1386 L xs x3 u644 B18 Q) ∧ (¬ y625 = y644 → ((0 : Int32) &&& 1 = (0 : Int32) ∧ Q (0 : Int32) u644)))))))))))))))))))) ∧ (¬ y32 = 13 → ((y32 = 14 → (∀ y656 : Int32, y656 = x3 + (1 : Int32) → (vp_in y656 L ∧ ∀ y657 : Int32, y657 = xs y656.toNatClampNeg → (∀ y661 : Int32, y661 = x3 + (2 : Int32) → (vp_in y661 L ∧ ∀ y662 : Int32, y662 = xs y661.toNatClampNeg → (wp_X11_shards y657 y662 u (fun y663 v663 => ∀ u663 : CS, u663 = embT u v663 → (∀ y670 : Int32, y670 = x3 + (1 : Int32) → (vp_in y670 L ∧ ∀ y671 : Int32, y671 = xs y670.toNatClampNeg → (∀ y675 : Int32, y675 = x3 + (2 : Int32) → (vp_in y675 L ∧ ∀ y676 : Int32, y676 = xs y675.toNatClampNeg → (wp_X12_shards y671 y676 (u663 25) (fun y677 v677 => ∀ u677 : CS, u677 = mu u663 25 v677 → (∀ y680 : Int32, y680 = lg_cmp y663 y677 → ((y680 = 0 → wp_L_law_p1386 L xs x3 u677 B18 Q) ∧ (¬ y680 = 0 → ((0 : Int32) &&& 1 = (0 : Int32) ∧ Q (0 : Int32) u677))))))))))))))))) ∧ (¬ y32 = 14 → ((y32 = 15 → (∀ y690 : Int32, y690 = x3 + (1 : Int32) → (vp_in y690 L ∧ ∀ y691 : Int32, y691 = xs y690.toNatClampNeg → (wp_X11_judge y691 u (fun y692 v692 => ∀ u692 : CS, u692 = embT u v692 → (∀ y699 : Int32, y699 = x3 + (1 : Int32) → (vp_in y699 L ∧ ∀ y700 : Int32, y700 = xs y699.toNatClampNeg → (wp_X12_judge y700 (u692 25) (fun y701 v701 => ∀ u701 : CS, u701 = mu u692 25 v701 → ((y692 = y701 → wp_L_law_p1386 L xs x3 u701 B18 Q) ∧ (¬ y692 = y701 → ((0 : Int32) &&& 1 = (0 : Int32) ∧ Q (0 : Int32) u701)))))))))))) ∧ (¬ y32 = 15 → ((y32 = 16 → (∀ y713 : Int32, y713 = x3 + (1 : Int32) → (vp_in y713 L ∧ ∀ y714 : Int32, y714 = xs y713.toNatClampNeg → (∀ y718 : Int32, y718 = x3 + (2 : Int32) → (vp_in y718 L ∧ ∀ y719 : Int32, y719 = xs y718.toNatClampNeg → (wp_X11_left y714 y719 u (fun y720 v720 => ∀ u720 : CS, u720 = embT u v720 → (∀ y727 : Int32, y727 = x3 + (1 : Int32) → (vp_in y727 L ∧ ∀ y728 : Int32, y728 = xs y727.toNatClampNeg → (∀ y732 : Int32, y732 = x3 + (2 : Int32) → (vp_in y732 L ∧ ∀ y733 : Int32, y733 = xs y732.toNatClampNeg → (wp_X12_left y728 y733 (u720 25) (fun y734 v734 => ∀ u734 : CS, u734 = mu u720 25 v734 → ((y720 = y734 → wp_L_law_p1386 L xs x3 u734 B18 Q) ∧ (¬ y720 = y734 → ((0 : Int32) &&& 1 = (0 : Int32) ∧ Q (0 : Int32) u734)))))))))))))))) ∧ (¬ y32 = 16 → ((y32 = 17 → (∀ y746 : Int32, y746 = x3 + (1 : Int32) → (vp_in y746 L ∧ ∀ y747 : Int32, y747 = xs y746.toNatClampNeg → (wp_X11_wise y747 u (fun y748 v748 => ∀ u748 : CS, u748 = embT u v748 → (∀ y755 : Int32, y755 = x3 + (1 : Int32) → (vp_in y755 L ∧ ∀ y756 : Int32, y756 = xs y755.toNatClampNeg → (wp_X12_wise y756 (u748 25) (fun y757 v757 => ∀ u757 : CS, u757 = mu u748 25 v757 → ((y748 = y757 → wp_L_law_p1386 L xs x3 u757 B18 Q) ∧ (¬ y748 = y757 → ((0 : Int32) &&& 1 = (0 : Int32) ∧ Q (0 : Int32) u757)))))))))))) ∧ (¬ y32 = 17 → ((y32 = 18 → (∀ y769 : Int32, y769 = x3 + (1 : Int32) → (vp_in y769 L ∧ ∀ y770 : Int32, y770 = xs y769.toNatClampNeg → (∀ y774 : Int32, y774 = x3 + (2 : Int32) → (vp_in y774 L ∧ ∀ y775 : Int32, y775 = xs y774.toNatClampNeg → (∀ y779 : Int32, y779 = x3 + (3 : Int32) → (vp_in y779 L ∧ ∀ y780 : Int32, y780 = xs y779.toNatClampNeg → (wp_X11_drawn y770 y775 y780 u (fun y781 v781 => ∀ u781 : CS, u781 = embT u v781 → (∀ y788 : Int32, y788 = x3 + (1 : Int32) → (vp_in y788 L ∧ ∀ y789 : Int32, y789 = xs y788.toNatClampNeg → (∀ y793 : Int32, y793 = x3 + (2 : Int32) → (vp_in y793 L ∧ ∀ y794 : Int32, y794 = xs y793.toNatClampNeg → (∀ y798 : Int32, y798 = x3 + (3 : Int32) → (vp_in y798 L ∧ ∀ y799 : Int32, y799 = xs y798.toNatClampNeg → (wp_X12_drawn y789 y794 y799 (u781 25) (fun y800 v800 => ∀ u800 : CS, u800 = mu u781 25 v800 → ((y781 = y800 → wp_L_law_p1386 L xs x3 u800 B18 Q) ∧ (¬ y781 = y800 → ((0 : Int32) &&& 1 = (0 : Int32) ∧ Q (0 : Int32) u800)))))))))))))))))))) ∧ (¬ y32 = 18 → ((y32 = 19 → (∀ y812 : Int32, y812 = x3 + (1 : Int32) → (vp_in y812 L ∧ ∀ y813 : Int32, y813 = xs y812.toNatClampNeg → (wp_X11_hide y813 u (fun y814 v814 => ∀ u814 : CS, u814 = embT u v814 → (∀ y821 : Int32, y821 = x3 + (1 : Int32) → (vp_in y821 L ∧ ∀ y822 : Int32, y822 = xs y821.toNatClampNeg → (wp_X12_hide y822 (u814 25) (fun y823 v823 => ∀ u823 : CS, u823 = mu u814 25 v823 → ((y814 = y823 → wp_L_law_p1386 L xs x3 u823 B18 Q) ∧ (¬ y814 = y823 → ((0 : Int32) &&& 1 = (0 : Int32) ∧ Q (0 : Int32) u823)))))))))))) ∧ (¬ y32 = 19 → ((y32 = 20 → (∀ y835 : Int32, y835 = x3 + (1 : Int32) → (vp_in y835 L ∧ ∀ y836 : Int32, y836 = xs y835.toNatClampNeg → (wp_X11_drop y836 u (fun y837 v837 => ∀ u837 : CS, u837 = embT u v837 → (∀ y844 : Int32, y844 = x3 + (1 : Int32) → (vp_in y844 L ∧ ∀ y845 : Int32, y845 = xs y844.toNatClampNeg → (wp_X12_drop y845 (u837 25) (fun y846 v846 => ∀ u846 : CS, u846 = mu u837 25 v846 → ((y837 = y846 → wp_L_law_p1386 L xs x3 u846 B18 Q) ∧ (¬ y837 = y846 → ((0 : Int32) &&& 1 = (0 : Int32) ∧ Q (0 : Int32) u846)))))))))))) ∧ (¬ y32 = 20 → ((y32 = 21 → (∀ y858 : Int32, y858 = x3 + (1 : Int32) → (vp_in y858 L ∧ ∀ y859 : Int32, y859 = xs y858.toNatClampNeg → (∀ y863 : Int32, y863 = x3 + (2 : Int32) → (vp_in y863 L ∧ ∀ y864 : Int32, y864 = xs y863.toNatClampNeg → (∀ y868 : Int32, y868 = x3 + (3 : Int32) → (vp_in y868 L ∧ ∀ y869 : Int32, y869 = xs y868.toNatClampNeg → (wp_X11_drops y859 y864 y869 u (fun y870 v870 => ∀ u870 : CS, u870 = embT u v870 → (∀ y877 : Int32, y877 = x3 + (1 : Int32) → (vp_in y877 L ∧ ∀ y878 : Int32, y878 = xs y877.toNatClampNeg → (∀ y882 : Int32, y882 = x3 + (2 : Int32) → (vp_in y882 L ∧ ∀ y883 : Int32, y883 = xs y882.toNatClampNeg → (∀ y887 : Int32, y887 = x3 + (3 : Int32) → (vp_in y887 L ∧ ∀ y888 : Int32, y888 = xs y887.toNatClampNeg → (wp_X12_drops y878 y883 y888 (u870 25) (fun y889 v889 => ∀ u889 : CS, u889 = mu u870 25 v889 → ((y870 = y889 → wp_L_law_p1386 L xs x3 u889 B18 Q) ∧ (¬ y870 = y889 → ((0 : Int32) &&& 1 = (0 : Int32) ∧ Q (0 : Int32) u889)))))))))))))))))))) ∧ (¬ y32 = 21 → ((y32 = 22 → (∀ y901 : Int32, y901 = x3 + (1 : Int32) → (vp_in y901 L ∧ ∀ y902 : Int32, y902 = xs y901.toNatClampNeg → (wp_X11_guess y902 u (fun y903 v903 => ∀ u903 : CS, u903 = embT u v903 → (∀ y910 : Int32, y910 = x3 + (1 : Int32) → (vp_in y910 L ∧ ∀ y911 : Int32, y911 = xs y910.toNatClampNeg → (wp_X12_guess y911 (u903 25) (fun y912 v912 => ∀ u912 : CS, u912 = mu u903 25 v912 → ((y903 = y912 → wp_L_law_p1386 L xs x3 u912 B18 Q) ∧ (¬ y903 = y912 → ((0 : Int32) &&& 1 = (0 : Int32) ∧ Q (0 : Int32) u912)))))))))))) ∧ (¬ y32 = 22 → ((y32 = 23 → (∀ y924 : Int32, y924 = x3 + (1 : Int32) → (vp_in y924 L ∧ ∀ y925 : Int32, y925 = xs y924.toNatClampNeg → (wp_X11_led y925 u (fun y926 v926 => ∀ u926 : CS, u926 = embT u v926 → (∀ y933 : Int32, y933 = x3 + (1 : Int32) → (vp_in y933 L ∧ ∀ y934 : Int32, y934 = xs y933.toNatClampNeg → (wp_X12_led y934 (u926 25) (fun y935 v935 => ∀ u935 : CS, u935 = mu u926 25 v935 → ((y926 = y935 → wp_L_law_p1386 L xs x3 u935 B18 Q) ∧ (¬ y926 = y935 → ((0 : Int32) &&& 1 = (0 : Int32) ∧ Q (0 : Int32) u935)))))))))))) ∧ (¬ y32 = 23 → ((y32 = 24 → (wp_X11_image u (fun y944 v944 => ∀ u944 : CS, u944 = embT u v944 → (wp_X12_image (u944 25) (fun y948 v948 => ∀ u948 : CS, u948 = mu u944 25 v948 → ((y944 = y948 → wp_L_law_p1386 L xs x3 u948 B18 Q) ∧ (¬ y944 = y948 → ((0 : Int32) &&& 1 = (0 : Int32) ∧ Q (0 : Int32) u948)))))))) ∧ (¬ y32 = 24 → ((y32 = 25 → (wp_X11_back u (fun y957 v957 => ∀ u957 : CS, u957 = embT u v957 → (wp_X12_back (u957 25) (fun y961 v961 => ∀ u961 : CS, u961 = mu u957 25 v961 → ((y957 = y961 → wp_L_law_p1386 L xs x3 u961 B18 Q) ∧ (¬ y957 = y961 → ((0 : Int32) &&& 1 = (0 : Int32) ∧ Q (0 : Int32) u961)))))))) ∧ (¬ y32 = 25 → ((y32 = 26 → (wp_X11_undo u (fun y970 v970 => ∀ u970 : CS, u970 = embT u v970 → (wp_X12_undo (u970 25) (fun y974 v974 => ∀ u974 : CS, u974 = mu u970 25 v974 → ((y970 = y974 → wp_L_law_p1386 L xs x3 u974 B18 Q) ∧ (¬ y970 = y974 → ((0 : Int32) &&& 1 = (0 : Int32) ∧ Q (0 : Int32) u974)))))))) ∧ (¬ y32 = 26 → ((y32 = 27 → (wp_X11_redo u (fun y983 v983 => ∀ u983 : CS, u983 = embT u v983 → (wp_X12_redo (u983 25) (fun y987 v987 => ∀ u987 : CS, u987 = mu u983 25 v987 → ((y983 = y987 → wp_L_law_p1386 L xs x3 u987 B18 Q) ∧ (¬ y983 = y987 → ((0 : Int32) &&& 1 = (0 : Int32) ∧ Q (0 : Int32) u987)))))))) ∧ (¬ y32 = 27 → ((y32 = 28 → (∀ y999 : Int32, y999 = x3 + (1 : Int32) → (vp_in y999 L ∧ ∀ y1000 : Int32, y1000 = xs y999.toNatClampNeg → (wp_X11_body y1000 u (fun y1001 v1001 => ∀ u1001 : CS, u1001 = embT u v1001 → (∀ y1008 : Int32, y1008 = x3 + (1 : Int32) → (vp_in y1008 L ∧ ∀ y1009 : Int32, y1009 = xs y1008.toNatClampNeg → (wp_X12_body y1009 (u1001 25) (fun y1010 v1010 => ∀ u1010 : CS, u1010 = mu u1001 25 v1010 → ((y1001 = y1010 → wp_L_law_p1386 L xs x3 u1010 B18 Q) ∧ (¬ y1001 = y1010 → ((0 : Int32) &&& 1 = (0 : Int32) ∧ Q (0 : Int32) u1010)))))))))))) ∧ (¬ y32 = 28 → ((y32 = 29 → (∀ y1022 : Int32, y1022 = x3 + (1 : Int32) → (vp_in y1022 L ∧ ∀ y1023 : Int32, y1023 = xs y1022.toNatClampNeg → (∀ y1027 : Int32, y1027 = x3 + (2 : Int32) → (vp_in y1027 L ∧ ∀ y1028 : Int32, y1028 = xs y1027.toNatClampNeg → (∀ y1032 : Int32, y1032 = x3 + (3 : Int32) → (vp_in y1032 L ∧ ∀ y1033 : Int32, y1033 = xs y1032.toNatClampNeg → (wp_X11_act y1023 y1028 y1033 u (fun y1034 v1034 => ∀ u1034 : CS, u1034 = embT u v1034 → (∀ y1041 : Int32, y1041 = x3 + (1 : Int32) → (vp_in y1041 L ∧ ∀ y1042 : Int32, y1042 = xs y1041.toNatClampNeg → (∀ y1046 : Int32, y1046 = x3 + (2 : Int32) → (vp_in y1046 L ∧ ∀ y1047 : Int32, y1047 = xs y1046.toNatClampNeg → (∀ y1051 : Int32, y1051 = x3 + (3 : Int32) → (vp_in y1051 L ∧ ∀ y1052 : Int32, y1052 = xs y1051.toNatClampNeg → (wp_X12_act y1042 y1047 y1052 (u1034 25) (fun y1053 v1053 => ∀ u1053 : CS, u1053 = mu u1034 25 v1053 → ((y1034 = y1053 → wp_L_law_p1386 L xs x3 u1053 B18 Q) ∧ (¬ y1034 = y1053 → ((0 : Int32) &&& 1 = (0 : Int32) ∧ Q (0 : Int32) u1053)))))))))))))))))))) ∧ (¬ y32 = 29 → ((y32 = 30 → (∀ y1065 : Int32, y1065 = x3 + (1 : Int32) → (vp_in y1065 L ∧ ∀ y1066 : Int32, y1066 = xs y1065.toNatClampNeg → (wp_X11_trace y1066 u (fun y1067 v1067 => ∀ u1067 : CS, u1067 = embT u v1067 → (∀ y1074 : Int32, y1074 = x3 + (1 : Int32) → (vp_in y1074 L ∧ ∀ y1075 : Int32, y1075 = xs y1074.toNatClampNeg → (wp_X12_trace y1075 (u1067 25) (fun y1076 v1076 => ∀ u1076 : CS, u1076 = mu u1067 25 v1076 → ((y1067 = y1076 → wp_L_law_p1386 L xs x3 u1076 B18 Q) ∧ (¬ y1067 = y1076 → ((0 : Int32) &&& 1 = (0 : Int32) ∧ Q (0 : Int32) u1076)))))))))))) ∧ (¬ y32 = 30 → ((y32 = 31 → (∀ y1088 : Int32, y1088 = x3 + (1 : Int32) → (vp_in y1088 L ∧ ∀ y1089 : Int32, y1089 = xs y1088.toNatClampNeg → (∀ y1093 : Int32, y1093 = x3 + (2 : Int32) → (vp_in y1093 L ∧ ∀ y1094 : Int32, y1094 = xs y1093.toNatClampNeg → (wp_X11_keep y1089 y1094 u (fun y1095 v1095 => ∀ u1095 : CS, u1095 = embT u v1095 → (∀ y1102 : Int32, y1102 = x3 + (1 : Int32) → (vp_in y1102 L ∧ ∀ y1103 : Int32, y1103 = xs y1102.toNatClampNeg → (∀ y1107 : Int32, y1107 = x3 + (2 : Int32) → (vp_in y1107 L ∧ ∀ y1108 : Int32, y1108 = xs y1107.toNatClampNeg → (wp_X12_keep y1103 y1108 (u1095 25) (fun y1109 v1109 => ∀ u1109 : CS, u1109 = mu u1095 25 v1109 → ((y1095 = y1109 → wp_L_law_p1386 L xs x3 u1109 B18 Q) ∧ (¬ y1095 = y1109 → ((0 : Int32) &&& 1 = (0 : Int32) ∧ Q (0 : Int32) u1109)))))))))))))))) ∧ (¬ y32 = 31 → ((y32 = 32 → (∀ y1121 : Int32, y1121 = x3 + (1 : Int32) → (vp_in y1121 L ∧ ∀ y1122 : Int32, y1122 = xs y1121.toNatClampNeg → (∀ y1126 : Int32, y1126 = x3 + (2 : Int32) → (vp_in y1126 L ∧ ∀ y1127 : Int32, y1127 = xs y1126.toNatClampNeg → (∀ y1131 : Int32, y1131 = x3 + (3 : Int32) → (vp_in y1131 L ∧ ∀ y1132 : Int32, y1132 = xs y1131.toNatClampNeg → (wp_X11_row y1122 y1127 y1132 u (fun y1133 v1133 => ∀ u1133 : CS, u1133 = embT u v1133 → (∀ y1140 : Int32, y1140 = x3 + (1 : Int32) → (vp_in y1140 L ∧ ∀ y1141 : Int32, y1141 = xs y1140.toNatClampNeg → (∀ y1145 : Int32, y1145 = x3 + (2 : Int32) → (vp_in y1145 L ∧ ∀ y1146 : Int32, y1146 = xs y1145.toNatClampNeg → (∀ y1150 : Int32, y1150 = x3 + (3 : Int32) → (vp_in y1150 L ∧ ∀ y1151 : Int32, y1151 = xs y1150.toNatClampNeg → (wp_X12_row y1141 y1146 y1151 (u1133 25) (fun y1152 v1152 => ∀ u1152 : CS, u1152 = mu u1133 25 v1152 → ((y1133 = y1152 → wp_L_law_p1386 L xs x3 u1152 B18 Q) ∧ (¬ y1133 = y1152 → ((0 : Int32) &&& 1 = (0 : Int32) ∧ Q (0 : Int32) u1152)))))))))))))))))))) ∧ (¬ y32 = 32 → ((y32 = 33 → (∀ y1164 : Int32, y1164 = x3 + (1 : Int32) → (vp_in y1164 L ∧ ∀ y1165 : Int32, y1165 = xs y1164.toNatClampNeg → (∀ y1169 : Int32, y1169 = x3 + (2 : Int32) → (vp_in y1169 L ∧ ∀ y1170 : Int32, y1170 = xs y1169.toNatClampNeg → (∀ y1174 : Int32, y1174 = x3 + (3 : Int32) → (vp_in y1174 L ∧ ∀ y1175 : Int32, y1175 = xs y1174.toNatClampNeg → (∀ y1176 : Int64, y1176 = y1175.toInt64 → (∀ y1179 : Int64, y1179 = y1176 <<< ((32 : Int32).toInt64 &&& 63) → (∀ y1183 : Int32, y1183 = x3 + (4 : Int32) → (vp_in y1183 L ∧ ∀ y1184 : Int32, y1184 = xs y1183.toNatClampNeg → (∀ y1185 : Int64, y1185 = y1184.toInt64 → (∀ y1189 : Int64, y1189 = y1185 &&& (4294967295 : Int64) → (∀ y1190 : Int64, y1190 = y1179 ||| y1189 → (wp_X11_put y1165 y1170 y1190 u (fun y1191 v1191 => ∀ u1191 : CS, u1191 = embT u v1191 → (∀ y1198 : Int32, y1198 = x3 + (1 : Int32) → (vp_in y1198 L ∧ ∀ y1199 : Int32, y1199 = xs y1198.toNatClampNeg → (∀ y1203 : Int32, y1203 = x3 + (2 : Int32) → (vp_in y1203 L ∧ ∀ y1204 : Int32, y1204 = xs y1203.toNatClampNeg → (∀ y1208 : Int32, y1208 = x3 + (3 : Int32) → (vp_in y1208 L ∧ ∀ y1209 : Int32, y1209 = xs y1208.toNatClampNeg → (∀ y1210 : Int64, y1210 = y1209.toInt64 → (∀ y1213 : Int64, y1213 = y1210 <<< ((32 : Int32).toInt64 &&& 63) → (∀ y1217 : Int32, y1217 = x3 + (4 : Int32) → (vp_in y1217 L ∧ ∀ y1218 : Int32, y1218 = xs y1217.toNatClampNeg → (∀ y1219 : Int64, y1219 = y1218.toInt64 → (∀ y1223 : Int64, y1223 = y1219 &&& (4294967295 : Int64) → (∀ y1224 : Int64, y1224 = y1213 ||| y1223 → (wp_X12_put y1199 y1204 y1224 (u1191 25) (fun y1225 v1225 => ∀ u1225 : CS, u1225 = mu u1191 25 v1225 → ((y1191 = y1225 → wp_L_law_p1386 L xs x3 u1225 B18 Q) ∧ (¬ y1191 = y1225 → ((0 : Int32) &&& 1 = (0 : Int32) ∧ Q (0 : Int32) u1225)))))))))))))))))))))))))))))))))) ∧ (¬ y32 = 33 → ((y32 = 34 → (∀ y1237 : Int32, y1237 = x3 + (1 : Int32) → (vp_in y1237 L ∧ ∀ y1238 : Int32, y1238 = xs y1237.toNatClampNeg → (∀ y1242 : Int32, y1242 = x3 + (2 : Int32) → (vp_in y1242 L ∧ ∀ y1243 : Int32, y1243 = xs y1242.toNatClampNeg → (wp_X11_element y1238 y1243 u (fun y1244 v1244 => ∀ u1244 : CS, u1244 = embT u v1244 → (∀ y1251 : Int32, y1251 = x3 + (1 : Int32) → (vp_in y1251 L ∧ ∀ y1252 : Int32, y1252 = xs y1251.toNatClampNeg → (∀ y1256 : Int32, y1256 = x3 + (2 : Int32) → (vp_in y1256 L ∧ ∀ y1257 : Int32, y1257 = xs y1256.toNatClampNeg → (wp_X12_element y1252 y1257 (u1244 25) (fun y1258 v1258 => ∀ u1258 : CS, u1258 = mu u1244 25 v1258 → (∀ y1261 : Int32, y1261 = lg_cmp y1244 y1258 → ((y1261 = 0 → wp_L_law_p1386 L xs x3 u1258 B18 Q) ∧ (¬ y1261 = 0 → ((0 : Int32) &&& 1 = (0 : Int32) ∧ Q (0 : Int32) u1258))))))))))))))))) ∧ (¬ y32 = 34 → ((y32 = 35 → (∀ y1271 : Int32, y1271 = x3 + (1 : Int32) → (vp_in y1271 L ∧ ∀ y1272 : Int32, y1272 = xs y1271.toNatClampNeg → (∀ y1276 : Int32, y1276 = x3 + (2 : Int32) → (vp_in y1276 L ∧ ∀ y1277 : Int32, y1277 = xs y1276.toNatClampNeg → (∀ y1281 : Int32, y1281 = x3 + (3 : Int32) → (vp_in y1281 L ∧ ∀ y1282 : Int32, y1282 = xs y1281.toNatClampNeg → (∀ y1286 : Int32, y1286 = x3 + (4 : Int32) → (vp_in y1286 L ∧ ∀ y1287 : Int32, y1287 = xs y1286.toNatClampNeg → (∀ y1291 : Int32, y1291 = x3 + (5 : Int32) → (vp_in y1291 L ∧ ∀ y1292 : Int32, y1292 = xs y1291.toNatClampNeg → (wp_X11_shift y1272 y1277 y1282 y1287 y1292 u (fun y1293 v1293 => ∀ u1293 : CS, u1293 = embT u v1293 → (∀ y1300 : Int32, y1300 = x3 + (1 : Int32) → (vp_in y1300 L ∧ ∀ y1301 : Int32, y1301 = xs y1300.toNatClampNeg → (∀ y1305 : Int32, y1305 = x3 + (2 : Int32) → (vp_in y1305 L ∧ ∀ y1306 : Int32, y1306 = xs y1305.toNatClampNeg → (∀ y1310 : Int32, y1310 = x3 + (3 : Int32) → (vp_in y1310 L ∧ ∀ y1311 : Int32, y1311 = xs y1310.toNatClampNeg → (∀ y1315 : Int32, y1315 = x3 + (4 : Int32) → (vp_in y1315 L ∧ ∀ y1316 : Int32, y1316 = xs y1315.toNatClampNeg → (∀ y1320 : Int32, y1320 = x3 + (5 : Int32) → (vp_in y1320 L ∧ ∀ y1321 : Int32, y1321 = xs y1320.toNatClampNeg → (wp_X12_shift y1301 y1306 y1311 y1316 y1321 (u1293 25) (fun y1322 v1322 => ∀ u1322 : CS, u1322 = mu u1293 25 v1322 → ((y1293 = y1322 → wp_L_law_p1386 L xs x3 u1322 B18 Q) ∧ (¬ y1293 = y1322 → ((0 : Int32) &&& 1 = (0 : Int32) ∧ Q (0 : Int32) u1322)))))))))))))))))))))))))))) ∧ (¬ y32 = 35 → ((y32 = 36 → (∀ y1334 : Int32, y1334 = x3 + (1 : Int32) → (vp_in y1334 L ∧ ∀ y1335 : Int32, y1335 = xs y1334.toNatClampNeg → (∀ y1339 : Int32, y1339 = x3 + (2 : Int32) → (vp_in y1339 L ∧ ∀ y1340 : Int32, y1340 = xs y1339.toNatClampNeg → (wp_X11_taken y1335 y1340 u (fun y1341 v1341 => ∀ u1341 : CS, u1341 = embT u v1341 → (∀ y1348 : Int32, y1348 = x3 + (1 : Int32) → (vp_in y1348 L ∧ ∀ y1349 : Int32, y1349 = xs y1348.toNatClampNeg → (∀ y1353 : Int32, y1353 = x3 + (2 : Int32) → (vp_in y1353 L ∧ ∀ y1354 : Int32, y1354 = xs y1353.toNatClampNeg → (wp_X12_taken y1349 y1354 (u1341 25) (fun y1355 v1355 => ∀ u1355 : CS, u1355 = mu u1341 25 v1355 → ((y1341 = y1355 → wp_L_law_p1386 L xs x3 u1355 B18 Q) ∧ (¬ y1341 = y1355 → ((0 : Int32) &&& 1 = (0 : Int32) ∧ Q (0 : Int32) u1355)))))))))))))))) ∧ (¬ y32 = 36 → ((y32 = 37 → (∀ y1367 : Int32, y1367 = x3 + (1 : Int32) → (vp_in y1367 L ∧ ∀ y1368 : Int32, y1368 = xs y1367.toNatClampNeg → (wp_X11_count y1368 u (fun y1369 v1369 => ∀ u1369 : CS, u1369 = embT u v1369 → (∀ y1376 : Int32, y1376 = x3 + (1 : Int32) → (vp_in y1376 L ∧ ∀ y1377 : Int32, y1377 = xs y1376.toNatClampNeg → (wp_X12_count y1377 (u1369 25) (fun y1378 v1378 => ∀ u1378 : CS, u1378 = mu u1369 25 v1378 → ((y1369 = y1378 → wp_L_law_p1386 L xs x3 u1378 B18 Q) ∧ (¬ y1369 = y1378 → ((0 : Int32) &&& 1 = (0 : Int32) ∧ Q (0 : Int32) u1378)))))))))))) ∧ (¬ y32 = 37 → wp_L_law_p1386 L xs x3 u B18 Q)))))))))))))))))))))))))))))))))))))))))))))))))))))))))))))))))))))))))))))))))
def wp_L_law_p18 (L : Nat) (xs : Nat → Int32) (x3 : Int32) (u : CS) (Q : Int32 → CS → Prop) : Prop := ∃ (I : Int32 → CS → Prop) (μ : Int32 → CS → Nat), I x3 u ∧ ∀ (x3 : Int32) (u : CS), I x3 u → wp_L_law_p18b L xs x3 u (fun yx3 yu => I yx3 yu ∧ μ yx3 yu < μ x3 u) Q
set_option maxHeartbeats 40000000 in
set_option maxRecDepth 100000 in
/-- THE LAW, from its loop's head on: what the words wp ask of the state and the script is all that is wanting -/
theorem law_loop {p : Program} {l : Launch} {e : Env} {s : State} {m : MethodId} {below : List Frame} {meth : Method} {c : Code} {b L : Nat} {xs : Nat → Int32} (C0 : lw_At p s m meth c b L xs) (D : va_G) (cs : Nat → ClassId) (h : Nat → Nat) (r : Nat → Nat → Nat) (q : Nat → Nat → Nat → Nat) (x3 : Int32) (U : CS) (hw : wp_L_law_p18 L xs x3 U (fun v _ => v = 1)) : mGoL p l e s m b below meth c D cs h r q 18 [(0, .ref b), (1, .ref (h 0)), (2, .ref (h 25)), (3, .int x3)] [] U := by
  obtain ⟨hx, hb, hr, hml, hown, hts, hX, hbl, hlocks, hgv⟩ := C0
  have hbA : ¬ (fun q : Nat => s.heap.size ≤ q) b := Nat.not_le.mpr hbl
  have S : CallFix p m c code 4 s #[Value.ref b] lw_tbl RL := ⟨hx, hb, hml, hown, hts⟩
  obtain ⟨Q, hQ⟩ : ∃ z : Int32 → CS → Prop, z = fun v _ => v = 1 := ⟨_, rfl⟩
  rw [← hQ] at hw
  have b1386 : ∀ (B18 : Int32 → CS → Prop), (∀ (x3 : Int32) (u : CS), B18 x3 u → mGoL p l e s m b below meth c D cs h r q 18 [(0, .ref b), (1, .ref (h 0)), (2, .ref (h 25)), (3, .int x3)] [] u) → ∀ (x3 : Int32) (u : CS), wp_L_law_p1386 L xs x3 u B18 Q → mGoL p l e s m b below meth c D cs h r q 1386 [(0, .ref b), (1, .ref (h 0)), (2, .ref (h 25)), (3, .int x3)] [] u := by
    intro B18 hB18 x3 u hw H locs ls hI hl
    unfold wp_L_law_p1386 at hw
    obtain ⟨y1386, ey1386⟩ : ∃ z : Int32, z = x3 + 6 := ⟨_, rfl⟩
    have hw := hw y1386 ey1386
    refine lv_iinc (v := y1386) (lv' := [(3, .int y1386), (0, .ref b), (1, .ref (h 0)), (2, .ref (h 25))]) S.1 S.2.1 dL_law_1386 hl (k := 3) rfl (by rw [ey1386]; rfl) (by decide) rfl (fun ls hl => ?_)
    refine lv_goto (tgt := 18) S.1 S.2.1 dL_law_1389 (by decide) ?_
    exact hB18 y1386 u hw H locs ls hI (lv_sub hl [1, 2, 3, 0] rfl)
  have b18b : ∀ (B18 : Int32 → CS → Prop), (∀ (x3 : Int32) (u : CS), B18 x3 u → mGoL p l e s m b below meth c D cs h r q 18 [(0, .ref b), (1, .ref (h 0)), (2, .ref (h 25)), (3, .int x3)] [] u) → ∀ (x3 : Int32) (u : CS), wp_L_law_p18b L xs x3 u B18 Q → mGoL p l e s m b below meth c D cs h r q 18 [(0, .ref b), (1, .ref (h 0)), (2, .ref (h 25)), (3, .int x3)] [] u := by
    intro B18 hB18 x3 u hw H locs ls hI hl
    unfold wp_L_law_p18b at hw
    refine lv_iload_n S.1 S.2.1 dL_law_18 rfl (lv_at hl 3 rfl) ?_
    refine lv_aload_n S.1 S.2.1 dL_law_19 rfl (lv_at hl 0 rfl) ?_
    refine va_slen S.1 S.2.1 hX hbl hbA hI.2.2.1 dL_law_20 ?_
    refine lv_bipush (v := 6) S.1 S.2.1 dL_law_21 (by decide) ?_
    refine lv_isub S.1 S.2.1 dL_law_23 ?_
    refine lv_topi (fun y23 ey23 => ?_)
    have hw := hw y23 ey23
    refine lv_icmp_gt (tgt := 1392) S.1 S.2.1 dL_law_24 (by decide) (fun c24 => ?_) (fun c24 => ?_)
    · have hw := hw.1 c24
      refine lv_iconst (v := 1) S.1 S.2.1 dL_law_1392 (by decide) ?_
      rw [hQ] at hw
      first
        | exact absurd (show (0 : Int32) = 1 from hw.2) (by decide)
        | (refine va_forget (fun q hq => hI.2.2.1.2.2 q hq) ?_; exact lw_ret hx hb hr hlocks dL_law_1393)
    · have hw := hw.2 c24
      refine lv_aload_n S.1 S.2.1 dL_law_27 rfl (lv_at hl 0 rfl) ?_
      refine lv_iload_n S.1 S.2.1 dL_law_28 rfl (lv_at hl 3 rfl) ?_
      refine va_sld S.1 S.2.1 hX hbl hbA hI.2.2.1 hw.1 dL_law_29 ?_
      refine lv_topi (fun y29 ey29 => ?_)
      have hw := hw.2 y29 ey29
      refine lv_bipush (v := 63) S.1 S.2.1 dL_law_30 (by decide) ?_
      refine lv_iand S.1 S.2.1 dL_law_32 ?_
      refine lv_topi (fun y32 ey32 => ?_)
      have hw := hw y32 ey32
      by_cases c33_0 : y32 = 0
      · have hw := hw.1 c33_0
        refine lv_tableIn (tgt := 200) S.1 S.2.1 dL_law_33 (by rw [c33_0] <;> decide) (by rw [c33_0] <;> decide) (by rw [c33_0] <;> rfl) (by decide) ?_
        refine lv_aload_n S.1 S.2.1 dL_law_200 rfl (lv_at hl 1 rfl) ?_
        refine lv_aload_n S.1 S.2.1 dL_law_201 rfl (lv_at hl 0 rfl) ?_
        refine lv_iload_n S.1 S.2.1 dL_law_202 rfl (lv_at hl 3 rfl) ?_
        refine lv_iconst (v := 1) S.1 S.2.1 dL_law_203 (by decide) ?_
        refine lv_iadd S.1 S.2.1 dL_law_204 ?_
        refine lv_topi (fun y204 ey204 => ?_)
        have hw := hw y204 ey204
        refine va_sld S.1 S.2.1 hX hbl hbA hI.2.2.1 hw.1 dL_law_205 ?_
        refine lv_topi (fun y205 ey205 => ?_)
        have hw := hw.2 y205 ey205
        refine lv_aload_n S.1 S.2.1 dL_law_206 rfl (lv_at hl 0 rfl) ?_
        refine lv_iload_n S.1 S.2.1 dL_law_207 rfl (lv_at hl 3 rfl) ?_
        refine lv_iconst (v := 2) S.1 S.2.1 dL_law_208 (by decide) ?_
        refine lv_iadd S.1 S.2.1 dL_law_209 ?_
        refine lv_topi (fun y209 ey209 => ?_)
        have hw := hw y209 ey209
        refine va_sld S.1 S.2.1 hX hbl hbA hI.2.2.1 hw.1 dL_law_210 ?_
        refine lv_topi (fun y210 ey210 => ?_)
        have hw := hw.2 y210 ey210
        refine m_vi (cf := fun v => VL h r q cs (embT u v)) (As := [.int y205, .int y210]) (rest := []) S (VL_T h r q cs u) hI (by rw [embT_self]) (c_X11_mend l D h r q cs y205 y210 u _ hw) (cwV 2 S.2.2.2.2 gT_X11_mend rfl rfl rfl (by decide +kernel) ⟨Nat.le_of_ble_eq_true rfl, Nat.le_of_ble_eq_true rfl⟩) (VT_o0 h r q cs u) rfl rfl hl.1 rfl (Nat.le_of_ble_eq_true rfl) dL_law_211 ⟨Nat.le_of_ble_eq_true rfl, Nat.le_of_ble_eq_true rfl⟩ (fun y211 v211 H locs hw hI => ?_)
        obtain ⟨u211, eu211⟩ : ∃ z : CS, z = embT u v211 := ⟨_, rfl⟩
        have hw := hw u211 eu211
        replace hI : mI D (mT cs) (fun q : Nat => s.heap.size ≤ q) s.heap s (VL h r q cs u211) H locs := by rw [eu211]; exact hI
        refine lv_aload_n S.1 S.2.1 dL_law_214 rfl (lv_at hl 2 rfl) ?_
        refine lv_aload_n S.1 S.2.1 dL_law_215 rfl (lv_at hl 0 rfl) ?_
        refine lv_iload_n S.1 S.2.1 dL_law_216 rfl (lv_at hl 3 rfl) ?_
        refine lv_iconst (v := 1) S.1 S.2.1 dL_law_217 (by decide) ?_
        refine lv_iadd S.1 S.2.1 dL_law_218 ?_
        refine lv_topi (fun y218 ey218 => ?_)
        have hw := hw y218 ey218
        refine va_sld S.1 S.2.1 hX hbl hbA hI.2.2.1 hw.1 dL_law_219 ?_
        refine lv_topi (fun y219 ey219 => ?_)
        have hw := hw.2 y219 ey219
        refine lv_aload_n S.1 S.2.1 dL_law_220 rfl (lv_at hl 0 rfl) ?_
        refine lv_iload_n S.1 S.2.1 dL_law_221 rfl (lv_at hl 3 rfl) ?_
        refine lv_iconst (v := 2) S.1 S.2.1 dL_law_222 (by decide) ?_
        refine lv_iadd S.1 S.2.1 dL_law_223 ?_
        refine lv_topi (fun y223 ey223 => ?_)
        have hw := hw y223 ey223
        refine va_sld S.1 S.2.1 hX hbl hbA hI.2.2.1 hw.1 dL_law_224 ?_
        refine lv_topi (fun y224 ey224 => ?_)
        have hw := hw.2 y224 ey224
        refine m_vi (cf := fun v => VL h r q cs (mu u211 25 v)) (As := [.int y219, .int y224]) (rest := [.int y211]) S (VL_c25 h r q cs u211) hI (by rw [mu_self]) (c_X12_mend l D (h 25) (r 25) cs y219 y224 (u211 25) _ hw) (cwV 2 S.2.2.2.2 gT_X12_mend rfl rfl rfl (by decide +kernel) ⟨Nat.le_of_ble_eq_true rfl, Nat.le_of_ble_eq_true rfl⟩) (W12_at0 _ _ _ _) rfl rfl hl.1 rfl (Nat.le_of_ble_eq_true rfl) dL_law_225 ⟨Nat.le_of_ble_eq_true rfl, Nat.le_of_ble_eq_true rfl⟩ (fun y225 v225 H locs hw hI => ?_)
        obtain ⟨u225, eu225⟩ : ∃ z : CS, z = mu u211 25 v225 := ⟨_, rfl⟩
        have hw := hw u225 eu225
        replace hI : mI D (mT cs) (fun q : Nat => s.heap.size ≤ q) s.heap s (VL h r q cs u225) H locs := by rw [eu225]; exact hI
        refine lv_icmp_eq (tgt := 1386) S.1 S.2.1 dL_law_228 (by decide) (fun c228 => ?_) (fun c228 => ?_)
        · have hw := hw.1 c228
          exact b1386 B18 hB18 x3 u225 hw H locs ls hI (lv_sub hl [0, 1, 2, 3] rfl)
        · have hw := hw.2 c228
          refine lv_iconst (v := 0) S.1 S.2.1 dL_law_231 (by decide) ?_
          rw [hQ] at hw
          first
            | exact absurd (show (0 : Int32) = 1 from hw.2) (by decide)
            | (refine va_forget (fun q hq => hI.2.2.1.2.2 q hq) ?_; exact lw_ret hx hb hr hlocks dL_law_232)
      · have hw := hw.2 c33_0
        by_cases c33_1 : y32 = 1
        · have hw := hw.1 c33_1
          refine lv_tableIn (tgt := 233) S.1 S.2.1 dL_law_33 (by rw [c33_1] <;> decide) (by rw [c33_1] <;> decide) (by rw [c33_1] <;> rfl) (by decide) ?_
          refine lv_aload_n S.1 S.2.1 dL_law_233 rfl (lv_at hl 1 rfl) ?_
          refine lv_aload_n S.1 S.2.1 dL_law_234 rfl (lv_at hl 0 rfl) ?_
          refine lv_iload_n S.1 S.2.1 dL_law_235 rfl (lv_at hl 3 rfl) ?_
          refine lv_iconst (v := 1) S.1 S.2.1 dL_law_236 (by decide) ?_
          refine lv_iadd S.1 S.2.1 dL_law_237 ?_
          refine lv_topi (fun y237 ey237 => ?_)
          have hw := hw y237 ey237
          refine va_sld S.1 S.2.1 hX hbl hbA hI.2.2.1 hw.1 dL_law_238 ?_
          refine lv_topi (fun y238 ey238 => ?_)
          have hw := hw.2 y238 ey238
          refine m_vi (cf := fun v => VL h r q cs (embT u v)) (As := [.int y238]) (rest := []) S (VL_T h r q cs u) hI (by rw [embT_self]) (c_X11_of l D h r q cs y238 u _ hw) (cwV 1 S.2.2.2.2 gT_X11_of rfl rfl rfl (by decide +kernel) ⟨Nat.le_of_ble_eq_true rfl, Nat.le_of_ble_eq_true rfl⟩) (VT_o0 h r q cs u) rfl rfl hl.1 rfl (Nat.le_of_ble_eq_true rfl) dL_law_239 ⟨Nat.le_of_ble_eq_true rfl, Nat.le_of_ble_eq_true rfl⟩ (fun y239 v239 H locs hw hI => ?_)
          obtain ⟨u239, eu239⟩ : ∃ z : CS, z = embT u v239 := ⟨_, rfl⟩
          have hw := hw u239 eu239
          replace hI : mI D (mT cs) (fun q : Nat => s.heap.size ≤ q) s.heap s (VL h r q cs u239) H locs := by rw [eu239]; exact hI
          refine lv_aload_n S.1 S.2.1 dL_law_242 rfl (lv_at hl 2 rfl) ?_
          refine lv_aload_n S.1 S.2.1 dL_law_243 rfl (lv_at hl 0 rfl) ?_
          refine lv_iload_n S.1 S.2.1 dL_law_244 rfl (lv_at hl 3 rfl) ?_
          refine lv_iconst (v := 1) S.1 S.2.1 dL_law_245 (by decide) ?_
          refine lv_iadd S.1 S.2.1 dL_law_246 ?_
          refine lv_topi (fun y246 ey246 => ?_)
          have hw := hw y246 ey246
          refine va_sld S.1 S.2.1 hX hbl hbA hI.2.2.1 hw.1 dL_law_247 ?_
          refine lv_topi (fun y247 ey247 => ?_)
          have hw := hw.2 y247 ey247
          refine m_vi (cf := fun v => VL h r q cs (mu u239 25 v)) (As := [.int y247]) (rest := [.int y239]) S (VL_c25 h r q cs u239) hI (by rw [mu_self]) (c_X12_of l D (h 25) (r 25) cs y247 (u239 25) _ hw) (cwV 1 S.2.2.2.2 gT_X12_of rfl rfl rfl (by decide +kernel) ⟨Nat.le_of_ble_eq_true rfl, Nat.le_of_ble_eq_true rfl⟩) (W12_at0 _ _ _ _) rfl rfl hl.1 rfl (Nat.le_of_ble_eq_true rfl) dL_law_248 ⟨Nat.le_of_ble_eq_true rfl, Nat.le_of_ble_eq_true rfl⟩ (fun y248 v248 H locs hw hI => ?_)
          obtain ⟨u248, eu248⟩ : ∃ z : CS, z = mu u239 25 v248 := ⟨_, rfl⟩
          have hw := hw u248 eu248
          replace hI : mI D (mT cs) (fun q : Nat => s.heap.size ≤ q) s.heap s (VL h r q cs u248) H locs := by rw [eu248]; exact hI
          refine lv_icmp_eq (tgt := 1386) S.1 S.2.1 dL_law_251 (by decide) (fun c251 => ?_) (fun c251 => ?_)
          · have hw := hw.1 c251
            exact b1386 B18 hB18 x3 u248 hw H locs ls hI (lv_sub hl [0, 1, 2, 3] rfl)
          · have hw := hw.2 c251
            refine lv_iconst (v := 0) S.1 S.2.1 dL_law_254 (by decide) ?_
            rw [hQ] at hw
            first
              | exact absurd (show (0 : Int32) = 1 from hw.2) (by decide)
              | (refine va_forget (fun q hq => hI.2.2.1.2.2 q hq) ?_; exact lw_ret hx hb hr hlocks dL_law_255)
        · have hw := hw.2 c33_1
          by_cases c33_2 : y32 = 2
          · have hw := hw.1 c33_2
            refine lv_tableIn (tgt := 256) S.1 S.2.1 dL_law_33 (by rw [c33_2] <;> decide) (by rw [c33_2] <;> decide) (by rw [c33_2] <;> rfl) (by decide) ?_
            refine lv_aload_n S.1 S.2.1 dL_law_256 rfl (lv_at hl 1 rfl) ?_
            refine lv_aload_n S.1 S.2.1 dL_law_257 rfl (lv_at hl 0 rfl) ?_
            refine lv_iload_n S.1 S.2.1 dL_law_258 rfl (lv_at hl 3 rfl) ?_
            refine lv_iconst (v := 1) S.1 S.2.1 dL_law_259 (by decide) ?_
            refine lv_iadd S.1 S.2.1 dL_law_260 ?_
            refine lv_topi (fun y260 ey260 => ?_)
            have hw := hw y260 ey260
            refine va_sld S.1 S.2.1 hX hbl hbA hI.2.2.1 hw.1 dL_law_261 ?_
            refine lv_topi (fun y261 ey261 => ?_)
            have hw := hw.2 y261 ey261
            refine m_vi (cf := fun v => VL h r q cs (embT u v)) (As := [.int y261]) (rest := []) S (VL_T h r q cs u) hI (by rw [embT_self]) (c_X11_feed l D h r q cs y261 u _ hw) (cwV 1 S.2.2.2.2 gT_X11_feed rfl rfl rfl (by decide +kernel) ⟨Nat.le_of_ble_eq_true rfl, Nat.le_of_ble_eq_true rfl⟩) (VT_o0 h r q cs u) rfl rfl hl.1 rfl (Nat.le_of_ble_eq_true rfl) dL_law_262 ⟨Nat.le_of_ble_eq_true rfl, Nat.le_of_ble_eq_true rfl⟩ (fun y262 v262 H locs hw hI => ?_)
            obtain ⟨u262, eu262⟩ : ∃ z : CS, z = embT u v262 := ⟨_, rfl⟩
            have hw := hw u262 eu262
            replace hI : mI D (mT cs) (fun q : Nat => s.heap.size ≤ q) s.heap s (VL h r q cs u262) H locs := by rw [eu262]; exact hI
            refine lv_aload_n S.1 S.2.1 dL_law_265 rfl (lv_at hl 2 rfl) ?_
            refine lv_aload_n S.1 S.2.1 dL_law_266 rfl (lv_at hl 0 rfl) ?_
            refine lv_iload_n S.1 S.2.1 dL_law_267 rfl (lv_at hl 3 rfl) ?_
            refine lv_iconst (v := 1) S.1 S.2.1 dL_law_268 (by decide) ?_
            refine lv_iadd S.1 S.2.1 dL_law_269 ?_
            refine lv_topi (fun y269 ey269 => ?_)
            have hw := hw y269 ey269
            refine va_sld S.1 S.2.1 hX hbl hbA hI.2.2.1 hw.1 dL_law_270 ?_
            refine lv_topi (fun y270 ey270 => ?_)
            have hw := hw.2 y270 ey270
            refine m_vi (cf := fun v => VL h r q cs (mu u262 25 v)) (As := [.int y270]) (rest := [.int y262]) S (VL_c25 h r q cs u262) hI (by rw [mu_self]) (c_X12_feed l D (h 25) (r 25) cs y270 (u262 25) _ hw) (cwV 1 S.2.2.2.2 gT_X12_feed rfl rfl rfl (by decide +kernel) ⟨Nat.le_of_ble_eq_true rfl, Nat.le_of_ble_eq_true rfl⟩) (W12_at0 _ _ _ _) rfl rfl hl.1 rfl (Nat.le_of_ble_eq_true rfl) dL_law_271 ⟨Nat.le_of_ble_eq_true rfl, Nat.le_of_ble_eq_true rfl⟩ (fun y271 v271 H locs hw hI => ?_)
            obtain ⟨u271, eu271⟩ : ∃ z : CS, z = mu u262 25 v271 := ⟨_, rfl⟩
            have hw := hw u271 eu271
            replace hI : mI D (mT cs) (fun q : Nat => s.heap.size ≤ q) s.heap s (VL h r q cs u271) H locs := by rw [eu271]; exact hI
            refine lv_icmp_eq (tgt := 1386) S.1 S.2.1 dL_law_274 (by decide) (fun c274 => ?_) (fun c274 => ?_)
            · have hw := hw.1 c274
              exact b1386 B18 hB18 x3 u271 hw H locs ls hI (lv_sub hl [0, 1, 2, 3] rfl)
            · have hw := hw.2 c274
              refine lv_iconst (v := 0) S.1 S.2.1 dL_law_277 (by decide) ?_
              rw [hQ] at hw
              first
                | exact absurd (show (0 : Int32) = 1 from hw.2) (by decide)
                | (refine va_forget (fun q hq => hI.2.2.1.2.2 q hq) ?_; exact lw_ret hx hb hr hlocks dL_law_278)
          · have hw := hw.2 c33_2
            by_cases c33_3 : y32 = 3
            · have hw := hw.1 c33_3
              refine lv_tableIn (tgt := 279) S.1 S.2.1 dL_law_33 (by rw [c33_3] <;> decide) (by rw [c33_3] <;> decide) (by rw [c33_3] <;> rfl) (by decide) ?_
              refine lv_aload_n S.1 S.2.1 dL_law_279 rfl (lv_at hl 1 rfl) ?_
              refine m_vi (cf := fun v => VL h r q cs (embT u v)) (As := []) (rest := []) S (VL_T h r q cs u) hI (by rw [embT_self]) (c_X11_law l D h r q cs u _ hw) (cwV 0 S.2.2.2.2 gT_X11_law rfl rfl rfl (by decide +kernel) ⟨Nat.le_of_ble_eq_true rfl, Nat.le_of_ble_eq_true rfl⟩) (VT_o0 h r q cs u) rfl rfl hl.1 rfl (Nat.le_of_ble_eq_true rfl) dL_law_280 ⟨Nat.le_of_ble_eq_true rfl, Nat.le_of_ble_eq_true rfl⟩ (fun y280 v280 H locs hw hI => ?_)
              obtain ⟨u280, eu280⟩ : ∃ z : CS, z = embT u v280 := ⟨_, rfl⟩
              have hw := hw u280 eu280
              replace hI : mI D (mT cs) (fun q : Nat => s.heap.size ≤ q) s.heap s (VL h r q cs u280) H locs := by rw [eu280]; exact hI
              refine lv_aload_n S.1 S.2.1 dL_law_283 rfl (lv_at hl 2 rfl) ?_
              refine m_vi (cf := fun v => VL h r q cs (mu u280 25 v)) (As := []) (rest := [.int y280]) S (VL_c25 h r q cs u280) hI (by rw [mu_self]) (c_X12_law l D (h 25) (r 25) cs (u280 25) _ hw) (cwV 0 S.2.2.2.2 gT_X12_law rfl rfl rfl (by decide +kernel) ⟨Nat.le_of_ble_eq_true rfl, Nat.le_of_ble_eq_true rfl⟩) (W12_at0 _ _ _ _) rfl rfl hl.1 rfl (Nat.le_of_ble_eq_true rfl) dL_law_284 ⟨Nat.le_of_ble_eq_true rfl, Nat.le_of_ble_eq_true rfl⟩ (fun y284 v284 H locs hw hI => ?_)
              obtain ⟨u284, eu284⟩ : ∃ z : CS, z = mu u280 25 v284 := ⟨_, rfl⟩
              have hw := hw u284 eu284
              replace hI : mI D (mT cs) (fun q : Nat => s.heap.size ≤ q) s.heap s (VL h r q cs u284) H locs := by rw [eu284]; exact hI
              refine lv_icmp_eq (tgt := 1386) S.1 S.2.1 dL_law_287 (by decide) (fun c287 => ?_) (fun c287 => ?_)
              · have hw := hw.1 c287
                exact b1386 B18 hB18 x3 u284 hw H locs ls hI (lv_sub hl [0, 1, 2, 3] rfl)
              · have hw := hw.2 c287
                refine lv_iconst (v := 0) S.1 S.2.1 dL_law_290 (by decide) ?_
                rw [hQ] at hw
                first
                  | exact absurd (show (0 : Int32) = 1 from hw.2) (by decide)
                  | (refine va_forget (fun q hq => hI.2.2.1.2.2 q hq) ?_; exact lw_ret hx hb hr hlocks dL_law_291)
            · have hw := hw.2 c33_3
              by_cases c33_4 : y32 = 4
              · have hw := hw.1 c33_4
                refine lv_tableIn (tgt := 292) S.1 S.2.1 dL_law_33 (by rw [c33_4] <;> decide) (by rw [c33_4] <;> decide) (by rw [c33_4] <;> rfl) (by decide) ?_
                refine lv_aload_n S.1 S.2.1 dL_law_292 rfl (lv_at hl 1 rfl) ?_
                refine lv_aload_n S.1 S.2.1 dL_law_293 rfl (lv_at hl 0 rfl) ?_
                refine lv_iload_n S.1 S.2.1 dL_law_294 rfl (lv_at hl 3 rfl) ?_
                refine lv_iconst (v := 1) S.1 S.2.1 dL_law_295 (by decide) ?_
                refine lv_iadd S.1 S.2.1 dL_law_296 ?_
                refine lv_topi (fun y296 ey296 => ?_)
                have hw := hw y296 ey296
                refine va_sld S.1 S.2.1 hX hbl hbA hI.2.2.1 hw.1 dL_law_297 ?_
                refine lv_topi (fun y297 ey297 => ?_)
                have hw := hw.2 y297 ey297
                refine m_vi (cf := fun v => VL h r q cs (embT u v)) (As := [.int y297]) (rest := []) S (VL_T h r q cs u) hI (by rw [embT_self]) (c_X11_weight l D h r q cs y297 u _ hw) (cwV 1 S.2.2.2.2 gT_X11_weight rfl rfl rfl (by decide +kernel) ⟨Nat.le_of_ble_eq_true rfl, Nat.le_of_ble_eq_true rfl⟩) (VT_o0 h r q cs u) rfl rfl hl.1 rfl (Nat.le_of_ble_eq_true rfl) dL_law_298 ⟨Nat.le_of_ble_eq_true rfl, Nat.le_of_ble_eq_true rfl⟩ (fun y298 v298 H locs hw hI => ?_)
                obtain ⟨u298, eu298⟩ : ∃ z : CS, z = embT u v298 := ⟨_, rfl⟩
                have hw := hw u298 eu298
                replace hI : mI D (mT cs) (fun q : Nat => s.heap.size ≤ q) s.heap s (VL h r q cs u298) H locs := by rw [eu298]; exact hI
                refine lv_aload_n S.1 S.2.1 dL_law_301 rfl (lv_at hl 2 rfl) ?_
                refine lv_aload_n S.1 S.2.1 dL_law_302 rfl (lv_at hl 0 rfl) ?_
                refine lv_iload_n S.1 S.2.1 dL_law_303 rfl (lv_at hl 3 rfl) ?_
                refine lv_iconst (v := 1) S.1 S.2.1 dL_law_304 (by decide) ?_
                refine lv_iadd S.1 S.2.1 dL_law_305 ?_
                refine lv_topi (fun y305 ey305 => ?_)
                have hw := hw y305 ey305
                refine va_sld S.1 S.2.1 hX hbl hbA hI.2.2.1 hw.1 dL_law_306 ?_
                refine lv_topi (fun y306 ey306 => ?_)
                have hw := hw.2 y306 ey306
                refine m_vi (cf := fun v => VL h r q cs (mu u298 25 v)) (As := [.int y306]) (rest := [.int y298]) S (VL_c25 h r q cs u298) hI (by rw [mu_self]) (c_X12_weight l D (h 25) (r 25) cs y306 (u298 25) _ hw) (cwV 1 S.2.2.2.2 gT_X12_weight rfl rfl rfl (by decide +kernel) ⟨Nat.le_of_ble_eq_true rfl, Nat.le_of_ble_eq_true rfl⟩) (W12_at0 _ _ _ _) rfl rfl hl.1 rfl (Nat.le_of_ble_eq_true rfl) dL_law_307 ⟨Nat.le_of_ble_eq_true rfl, Nat.le_of_ble_eq_true rfl⟩ (fun y307 v307 H locs hw hI => ?_)
                obtain ⟨u307, eu307⟩ : ∃ z : CS, z = mu u298 25 v307 := ⟨_, rfl⟩
                have hw := hw u307 eu307
                replace hI : mI D (mT cs) (fun q : Nat => s.heap.size ≤ q) s.heap s (VL h r q cs u307) H locs := by rw [eu307]; exact hI
                refine lv_icmp_eq (tgt := 1386) S.1 S.2.1 dL_law_310 (by decide) (fun c310 => ?_) (fun c310 => ?_)
                · have hw := hw.1 c310
                  exact b1386 B18 hB18 x3 u307 hw H locs ls hI (lv_sub hl [0, 1, 2, 3] rfl)
                · have hw := hw.2 c310
                  refine lv_iconst (v := 0) S.1 S.2.1 dL_law_313 (by decide) ?_
                  rw [hQ] at hw
                  first
                    | exact absurd (show (0 : Int32) = 1 from hw.2) (by decide)
                    | (refine va_forget (fun q hq => hI.2.2.1.2.2 q hq) ?_; exact lw_ret hx hb hr hlocks dL_law_314)
              · have hw := hw.2 c33_4
                by_cases c33_5 : y32 = 5
                · have hw := hw.1 c33_5
                  refine lv_tableIn (tgt := 315) S.1 S.2.1 dL_law_33 (by rw [c33_5] <;> decide) (by rw [c33_5] <;> decide) (by rw [c33_5] <;> rfl) (by decide) ?_
                  refine lv_aload_n S.1 S.2.1 dL_law_315 rfl (lv_at hl 1 rfl) ?_
                  refine lv_aload_n S.1 S.2.1 dL_law_316 rfl (lv_at hl 0 rfl) ?_
                  refine lv_iload_n S.1 S.2.1 dL_law_317 rfl (lv_at hl 3 rfl) ?_
                  refine lv_iconst (v := 1) S.1 S.2.1 dL_law_318 (by decide) ?_
                  refine lv_iadd S.1 S.2.1 dL_law_319 ?_
                  refine lv_topi (fun y319 ey319 => ?_)
                  have hw := hw y319 ey319
                  refine va_sld S.1 S.2.1 hX hbl hbA hI.2.2.1 hw.1 dL_law_320 ?_
                  refine lv_topi (fun y320 ey320 => ?_)
                  have hw := hw.2 y320 ey320
                  refine lv_aload_n S.1 S.2.1 dL_law_321 rfl (lv_at hl 0 rfl) ?_
                  refine lv_iload_n S.1 S.2.1 dL_law_322 rfl (lv_at hl 3 rfl) ?_
                  refine lv_iconst (v := 2) S.1 S.2.1 dL_law_323 (by decide) ?_
                  refine lv_iadd S.1 S.2.1 dL_law_324 ?_
                  refine lv_topi (fun y324 ey324 => ?_)
                  have hw := hw y324 ey324
                  refine va_sld S.1 S.2.1 hX hbl hbA hI.2.2.1 hw.1 dL_law_325 ?_
                  refine lv_topi (fun y325 ey325 => ?_)
                  have hw := hw.2 y325 ey325
                  refine m_vi (cf := fun v => VL h r q cs (embT u v)) (As := [.int y320, .int y325]) (rest := []) S (VL_T h r q cs u) hI (by rw [embT_self]) (c_X11_worst l D h r q cs y320 y325 u _ hw) (cwV 2 S.2.2.2.2 gT_X11_worst rfl rfl rfl (by decide +kernel) ⟨Nat.le_of_ble_eq_true rfl, Nat.le_of_ble_eq_true rfl⟩) (VT_o0 h r q cs u) rfl rfl hl.1 rfl (Nat.le_of_ble_eq_true rfl) dL_law_326 ⟨Nat.le_of_ble_eq_true rfl, Nat.le_of_ble_eq_true rfl⟩ (fun y326 v326 H locs hw hI => ?_)
                  obtain ⟨u326, eu326⟩ : ∃ z : CS, z = embT u v326 := ⟨_, rfl⟩
                  have hw := hw u326 eu326
                  replace hI : mI D (mT cs) (fun q : Nat => s.heap.size ≤ q) s.heap s (VL h r q cs u326) H locs := by rw [eu326]; exact hI
                  refine lv_aload_n S.1 S.2.1 dL_law_329 rfl (lv_at hl 2 rfl) ?_
                  refine lv_aload_n S.1 S.2.1 dL_law_330 rfl (lv_at hl 0 rfl) ?_
                  refine lv_iload_n S.1 S.2.1 dL_law_331 rfl (lv_at hl 3 rfl) ?_
                  refine lv_iconst (v := 1) S.1 S.2.1 dL_law_332 (by decide) ?_
                  refine lv_iadd S.1 S.2.1 dL_law_333 ?_
                  refine lv_topi (fun y333 ey333 => ?_)
                  have hw := hw y333 ey333
                  refine va_sld S.1 S.2.1 hX hbl hbA hI.2.2.1 hw.1 dL_law_334 ?_
                  refine lv_topi (fun y334 ey334 => ?_)
                  have hw := hw.2 y334 ey334
                  refine lv_aload_n S.1 S.2.1 dL_law_335 rfl (lv_at hl 0 rfl) ?_
                  refine lv_iload_n S.1 S.2.1 dL_law_336 rfl (lv_at hl 3 rfl) ?_
                  refine lv_iconst (v := 2) S.1 S.2.1 dL_law_337 (by decide) ?_
                  refine lv_iadd S.1 S.2.1 dL_law_338 ?_
                  refine lv_topi (fun y338 ey338 => ?_)
                  have hw := hw y338 ey338
                  refine va_sld S.1 S.2.1 hX hbl hbA hI.2.2.1 hw.1 dL_law_339 ?_
                  refine lv_topi (fun y339 ey339 => ?_)
                  have hw := hw.2 y339 ey339
                  refine m_vi (cf := fun v => VL h r q cs (mu u326 25 v)) (As := [.int y334, .int y339]) (rest := [.int y326]) S (VL_c25 h r q cs u326) hI (by rw [mu_self]) (c_X12_worst l D (h 25) (r 25) cs y334 y339 (u326 25) _ hw) (cwV 2 S.2.2.2.2 gT_X12_worst rfl rfl rfl (by decide +kernel) ⟨Nat.le_of_ble_eq_true rfl, Nat.le_of_ble_eq_true rfl⟩) (W12_at0 _ _ _ _) rfl rfl hl.1 rfl (Nat.le_of_ble_eq_true rfl) dL_law_340 ⟨Nat.le_of_ble_eq_true rfl, Nat.le_of_ble_eq_true rfl⟩ (fun y340 v340 H locs hw hI => ?_)
                  obtain ⟨u340, eu340⟩ : ∃ z : CS, z = mu u326 25 v340 := ⟨_, rfl⟩
                  have hw := hw u340 eu340
                  replace hI : mI D (mT cs) (fun q : Nat => s.heap.size ≤ q) s.heap s (VL h r q cs u340) H locs := by rw [eu340]; exact hI
                  refine lv_icmp_eq (tgt := 1386) S.1 S.2.1 dL_law_343 (by decide) (fun c343 => ?_) (fun c343 => ?_)
                  · have hw := hw.1 c343
                    exact b1386 B18 hB18 x3 u340 hw H locs ls hI (lv_sub hl [0, 1, 2, 3] rfl)
                  · have hw := hw.2 c343
                    refine lv_iconst (v := 0) S.1 S.2.1 dL_law_346 (by decide) ?_
                    rw [hQ] at hw
                    first
                      | exact absurd (show (0 : Int32) = 1 from hw.2) (by decide)
                      | (refine va_forget (fun q hq => hI.2.2.1.2.2 q hq) ?_; exact lw_ret hx hb hr hlocks dL_law_347)
                · have hw := hw.2 c33_5
                  by_cases c33_6 : y32 = 6
                  · have hw := hw.1 c33_6
                    refine lv_tableIn (tgt := 348) S.1 S.2.1 dL_law_33 (by rw [c33_6] <;> decide) (by rw [c33_6] <;> decide) (by rw [c33_6] <;> rfl) (by decide) ?_
                    refine lv_aload_n S.1 S.2.1 dL_law_348 rfl (lv_at hl 1 rfl) ?_
                    refine lv_aload_n S.1 S.2.1 dL_law_349 rfl (lv_at hl 0 rfl) ?_
                    refine lv_iload_n S.1 S.2.1 dL_law_350 rfl (lv_at hl 3 rfl) ?_
                    refine lv_iconst (v := 1) S.1 S.2.1 dL_law_351 (by decide) ?_
                    refine lv_iadd S.1 S.2.1 dL_law_352 ?_
                    refine lv_topi (fun y352 ey352 => ?_)
                    have hw := hw y352 ey352
                    refine va_sld S.1 S.2.1 hX hbl hbA hI.2.2.1 hw.1 dL_law_353 ?_
                    refine lv_topi (fun y353 ey353 => ?_)
                    have hw := hw.2 y353 ey353
                    refine m_vi (cf := fun v => VL h r q cs (embT u v)) (As := [.int y353]) (rest := []) S (VL_T h r q cs u) hI (by rw [embT_self]) (c_X11_reach l D h r q cs y353 u _ hw) (cwV 1 S.2.2.2.2 gT_X11_reach rfl rfl rfl (by decide +kernel) ⟨Nat.le_of_ble_eq_true rfl, Nat.le_of_ble_eq_true rfl⟩) (VT_o0 h r q cs u) rfl rfl hl.1 rfl (Nat.le_of_ble_eq_true rfl) dL_law_354 ⟨Nat.le_of_ble_eq_true rfl, Nat.le_of_ble_eq_true rfl⟩ (fun y354 v354 H locs hw hI => ?_)
                    obtain ⟨u354, eu354⟩ : ∃ z : CS, z = embT u v354 := ⟨_, rfl⟩
                    have hw := hw u354 eu354
                    replace hI : mI D (mT cs) (fun q : Nat => s.heap.size ≤ q) s.heap s (VL h r q cs u354) H locs := by rw [eu354]; exact hI
                    refine lv_aload_n S.1 S.2.1 dL_law_357 rfl (lv_at hl 2 rfl) ?_
                    refine lv_aload_n S.1 S.2.1 dL_law_358 rfl (lv_at hl 0 rfl) ?_
                    refine lv_iload_n S.1 S.2.1 dL_law_359 rfl (lv_at hl 3 rfl) ?_
                    refine lv_iconst (v := 1) S.1 S.2.1 dL_law_360 (by decide) ?_
                    refine lv_iadd S.1 S.2.1 dL_law_361 ?_
                    refine lv_topi (fun y361 ey361 => ?_)
                    have hw := hw y361 ey361
                    refine va_sld S.1 S.2.1 hX hbl hbA hI.2.2.1 hw.1 dL_law_362 ?_
                    refine lv_topi (fun y362 ey362 => ?_)
                    have hw := hw.2 y362 ey362
                    refine m_vi (cf := fun v => VL h r q cs (mu u354 25 v)) (As := [.int y362]) (rest := [.int y354]) S (VL_c25 h r q cs u354) hI (by rw [mu_self]) (c_X12_reach l D (h 25) (r 25) cs y362 (u354 25) _ hw) (cwV 1 S.2.2.2.2 gT_X12_reach rfl rfl rfl (by decide +kernel) ⟨Nat.le_of_ble_eq_true rfl, Nat.le_of_ble_eq_true rfl⟩) (W12_at0 _ _ _ _) rfl rfl hl.1 rfl (Nat.le_of_ble_eq_true rfl) dL_law_363 ⟨Nat.le_of_ble_eq_true rfl, Nat.le_of_ble_eq_true rfl⟩ (fun y363 v363 H locs hw hI => ?_)
                    obtain ⟨u363, eu363⟩ : ∃ z : CS, z = mu u354 25 v363 := ⟨_, rfl⟩
                    have hw := hw u363 eu363
                    replace hI : mI D (mT cs) (fun q : Nat => s.heap.size ≤ q) s.heap s (VL h r q cs u363) H locs := by rw [eu363]; exact hI
                    refine lv_icmp_eq (tgt := 1386) S.1 S.2.1 dL_law_366 (by decide) (fun c366 => ?_) (fun c366 => ?_)
                    · have hw := hw.1 c366
                      exact b1386 B18 hB18 x3 u363 hw H locs ls hI (lv_sub hl [0, 1, 2, 3] rfl)
                    · have hw := hw.2 c366
                      refine lv_iconst (v := 0) S.1 S.2.1 dL_law_369 (by decide) ?_
                      rw [hQ] at hw
                      first
                        | exact absurd (show (0 : Int32) = 1 from hw.2) (by decide)
                        | (refine va_forget (fun q hq => hI.2.2.1.2.2 q hq) ?_; exact lw_ret hx hb hr hlocks dL_law_370)
                  · have hw := hw.2 c33_6
                    by_cases c33_7 : y32 = 7
                    · have hw := hw.1 c33_7
                      refine lv_tableIn (tgt := 371) S.1 S.2.1 dL_law_33 (by rw [c33_7] <;> decide) (by rw [c33_7] <;> decide) (by rw [c33_7] <;> rfl) (by decide) ?_
                      refine lv_aload_n S.1 S.2.1 dL_law_371 rfl (lv_at hl 1 rfl) ?_
                      refine lv_aload_n S.1 S.2.1 dL_law_372 rfl (lv_at hl 0 rfl) ?_
                      refine lv_iload_n S.1 S.2.1 dL_law_373 rfl (lv_at hl 3 rfl) ?_
                      refine lv_iconst (v := 1) S.1 S.2.1 dL_law_374 (by decide) ?_
                      refine lv_iadd S.1 S.2.1 dL_law_375 ?_
                      refine lv_topi (fun y375 ey375 => ?_)
                      have hw := hw y375 ey375
                      refine va_sld S.1 S.2.1 hX hbl hbA hI.2.2.1 hw.1 dL_law_376 ?_
                      refine lv_topi (fun y376 ey376 => ?_)
                      have hw := hw.2 y376 ey376
                      refine lv_aload_n S.1 S.2.1 dL_law_377 rfl (lv_at hl 0 rfl) ?_
                      refine lv_iload_n S.1 S.2.1 dL_law_378 rfl (lv_at hl 3 rfl) ?_
                      refine lv_iconst (v := 2) S.1 S.2.1 dL_law_379 (by decide) ?_
                      refine lv_iadd S.1 S.2.1 dL_law_380 ?_
                      refine lv_topi (fun y380 ey380 => ?_)
                      have hw := hw y380 ey380
                      refine va_sld S.1 S.2.1 hX hbl hbA hI.2.2.1 hw.1 dL_law_381 ?_
                      refine lv_topi (fun y381 ey381 => ?_)
                      have hw := hw.2 y381 ey381
                      refine lv_aload_n S.1 S.2.1 dL_law_382 rfl (lv_at hl 0 rfl) ?_
                      refine lv_iload_n S.1 S.2.1 dL_law_383 rfl (lv_at hl 3 rfl) ?_
                      refine lv_iconst (v := 3) S.1 S.2.1 dL_law_384 (by decide) ?_
                      refine lv_iadd S.1 S.2.1 dL_law_385 ?_
                      refine lv_topi (fun y385 ey385 => ?_)
                      have hw := hw y385 ey385
                      refine va_sld S.1 S.2.1 hX hbl hbA hI.2.2.1 hw.1 dL_law_386 ?_
                      refine lv_topi (fun y386 ey386 => ?_)
                      have hw := hw.2 y386 ey386
                      refine m_vi (cf := fun v => VL h r q cs (embT u v)) (As := [.int y376, .int y381, .int y386]) (rest := []) S (VL_T h r q cs u) hI (by rw [embT_self]) (c_X11_mean l D h r q cs y376 y381 y386 u _ hw) (cwV 3 S.2.2.2.2 gT_X11_mean rfl rfl rfl (by decide +kernel) ⟨Nat.le_of_ble_eq_true rfl, Nat.le_of_ble_eq_true rfl⟩) (VT_o0 h r q cs u) rfl rfl hl.1 rfl (Nat.le_of_ble_eq_true rfl) dL_law_387 ⟨Nat.le_of_ble_eq_true rfl, Nat.le_of_ble_eq_true rfl⟩ (fun y387 v387 H locs hw hI => ?_)
                      obtain ⟨u387, eu387⟩ : ∃ z : CS, z = embT u v387 := ⟨_, rfl⟩
                      have hw := hw u387 eu387
                      replace hI : mI D (mT cs) (fun q : Nat => s.heap.size ≤ q) s.heap s (VL h r q cs u387) H locs := by rw [eu387]; exact hI
                      refine lv_aload_n S.1 S.2.1 dL_law_390 rfl (lv_at hl 2 rfl) ?_
                      refine lv_aload_n S.1 S.2.1 dL_law_391 rfl (lv_at hl 0 rfl) ?_
                      refine lv_iload_n S.1 S.2.1 dL_law_392 rfl (lv_at hl 3 rfl) ?_
                      refine lv_iconst (v := 1) S.1 S.2.1 dL_law_393 (by decide) ?_
                      refine lv_iadd S.1 S.2.1 dL_law_394 ?_
                      refine lv_topi (fun y394 ey394 => ?_)
                      have hw := hw y394 ey394
                      refine va_sld S.1 S.2.1 hX hbl hbA hI.2.2.1 hw.1 dL_law_395 ?_
                      refine lv_topi (fun y395 ey395 => ?_)
                      have hw := hw.2 y395 ey395
                      refine lv_aload_n S.1 S.2.1 dL_law_396 rfl (lv_at hl 0 rfl) ?_
                      refine lv_iload_n S.1 S.2.1 dL_law_397 rfl (lv_at hl 3 rfl) ?_
                      refine lv_iconst (v := 2) S.1 S.2.1 dL_law_398 (by decide) ?_
                      refine lv_iadd S.1 S.2.1 dL_law_399 ?_
                      refine lv_topi (fun y399 ey399 => ?_)
                      have hw := hw y399 ey399
                      refine va_sld S.1 S.2.1 hX hbl hbA hI.2.2.1 hw.1 dL_law_400 ?_
                      refine lv_topi (fun y400 ey400 => ?_)
                      have hw := hw.2 y400 ey400
                      refine lv_aload_n S.1 S.2.1 dL_law_401 rfl (lv_at hl 0 rfl) ?_
                      refine lv_iload_n S.1 S.2.1 dL_law_402 rfl (lv_at hl 3 rfl) ?_
                      refine lv_iconst (v := 3) S.1 S.2.1 dL_law_403 (by decide) ?_
                      refine lv_iadd S.1 S.2.1 dL_law_404 ?_
                      refine lv_topi (fun y404 ey404 => ?_)
                      have hw := hw y404 ey404
                      refine va_sld S.1 S.2.1 hX hbl hbA hI.2.2.1 hw.1 dL_law_405 ?_
                      refine lv_topi (fun y405 ey405 => ?_)
                      have hw := hw.2 y405 ey405
                      refine m_vi (cf := fun v => VL h r q cs (mu u387 25 v)) (As := [.int y395, .int y400, .int y405]) (rest := [.int y387]) S (VL_c25 h r q cs u387) hI (by rw [mu_self]) (c_X12_mean l D (h 25) (r 25) cs y395 y400 y405 (u387 25) _ hw) (cwV 3 S.2.2.2.2 gT_X12_mean rfl rfl rfl (by decide +kernel) ⟨Nat.le_of_ble_eq_true rfl, Nat.le_of_ble_eq_true rfl⟩) (W12_at0 _ _ _ _) rfl rfl hl.1 rfl (Nat.le_of_ble_eq_true rfl) dL_law_406 ⟨Nat.le_of_ble_eq_true rfl, Nat.le_of_ble_eq_true rfl⟩ (fun y406 v406 H locs hw hI => ?_)
                      obtain ⟨u406, eu406⟩ : ∃ z : CS, z = mu u387 25 v406 := ⟨_, rfl⟩
                      have hw := hw u406 eu406
                      replace hI : mI D (mT cs) (fun q : Nat => s.heap.size ≤ q) s.heap s (VL h r q cs u406) H locs := by rw [eu406]; exact hI
                      refine lv_icmp_eq (tgt := 1386) S.1 S.2.1 dL_law_409 (by decide) (fun c409 => ?_) (fun c409 => ?_)
                      · have hw := hw.1 c409
                        exact b1386 B18 hB18 x3 u406 hw H locs ls hI (lv_sub hl [0, 1, 2, 3] rfl)
                      · have hw := hw.2 c409
                        refine lv_iconst (v := 0) S.1 S.2.1 dL_law_412 (by decide) ?_
                        rw [hQ] at hw
                        first
                          | exact absurd (show (0 : Int32) = 1 from hw.2) (by decide)
                          | (refine va_forget (fun q hq => hI.2.2.1.2.2 q hq) ?_; exact lw_ret hx hb hr hlocks dL_law_413)
                    · have hw := hw.2 c33_7
                      by_cases c33_8 : y32 = 8
                      · have hw := hw.1 c33_8
                        refine lv_tableIn (tgt := 414) S.1 S.2.1 dL_law_33 (by rw [c33_8] <;> decide) (by rw [c33_8] <;> decide) (by rw [c33_8] <;> rfl) (by decide) ?_
                        refine lv_aload_n S.1 S.2.1 dL_law_414 rfl (lv_at hl 1 rfl) ?_
                        refine lv_aload_n S.1 S.2.1 dL_law_415 rfl (lv_at hl 0 rfl) ?_
                        refine lv_iload_n S.1 S.2.1 dL_law_416 rfl (lv_at hl 3 rfl) ?_
                        refine lv_iconst (v := 1) S.1 S.2.1 dL_law_417 (by decide) ?_
                        refine lv_iadd S.1 S.2.1 dL_law_418 ?_
                        refine lv_topi (fun y418 ey418 => ?_)
                        have hw := hw y418 ey418
                        refine va_sld S.1 S.2.1 hX hbl hbA hI.2.2.1 hw.1 dL_law_419 ?_
                        refine lv_topi (fun y419 ey419 => ?_)
                        have hw := hw.2 y419 ey419
                        refine lv_aload_n S.1 S.2.1 dL_law_420 rfl (lv_at hl 0 rfl) ?_
                        refine lv_iload_n S.1 S.2.1 dL_law_421 rfl (lv_at hl 3 rfl) ?_
                        refine lv_iconst (v := 2) S.1 S.2.1 dL_law_422 (by decide) ?_
                        refine lv_iadd S.1 S.2.1 dL_law_423 ?_
                        refine lv_topi (fun y423 ey423 => ?_)
                        have hw := hw y423 ey423
                        refine va_sld S.1 S.2.1 hX hbl hbA hI.2.2.1 hw.1 dL_law_424 ?_
                        refine lv_topi (fun y424 ey424 => ?_)
                        have hw := hw.2 y424 ey424
                        refine m_vi (cf := fun v => VL h r q cs (embT u v)) (As := [.int y419, .int y424]) (rest := []) S (VL_T h r q cs u) hI (by rw [embT_self]) (c_X11_meanFirst l D h r q cs y419 y424 u _ hw) (cwV 2 S.2.2.2.2 gT_X11_meanFirst rfl rfl rfl (by decide +kernel) ⟨Nat.le_of_ble_eq_true rfl, Nat.le_of_ble_eq_true rfl⟩) (VT_o0 h r q cs u) rfl rfl hl.1 rfl (Nat.le_of_ble_eq_true rfl) dL_law_425 ⟨Nat.le_of_ble_eq_true rfl, Nat.le_of_ble_eq_true rfl⟩ (fun y425 v425 H locs hw hI => ?_)
                        obtain ⟨u425, eu425⟩ : ∃ z : CS, z = embT u v425 := ⟨_, rfl⟩
                        have hw := hw u425 eu425
                        replace hI : mI D (mT cs) (fun q : Nat => s.heap.size ≤ q) s.heap s (VL h r q cs u425) H locs := by rw [eu425]; exact hI
                        refine lv_aload_n S.1 S.2.1 dL_law_428 rfl (lv_at hl 2 rfl) ?_
                        refine lv_aload_n S.1 S.2.1 dL_law_429 rfl (lv_at hl 0 rfl) ?_
                        refine lv_iload_n S.1 S.2.1 dL_law_430 rfl (lv_at hl 3 rfl) ?_
                        refine lv_iconst (v := 1) S.1 S.2.1 dL_law_431 (by decide) ?_
                        refine lv_iadd S.1 S.2.1 dL_law_432 ?_
                        refine lv_topi (fun y432 ey432 => ?_)
                        have hw := hw y432 ey432
                        refine va_sld S.1 S.2.1 hX hbl hbA hI.2.2.1 hw.1 dL_law_433 ?_
                        refine lv_topi (fun y433 ey433 => ?_)
                        have hw := hw.2 y433 ey433
                        refine lv_aload_n S.1 S.2.1 dL_law_434 rfl (lv_at hl 0 rfl) ?_
                        refine lv_iload_n S.1 S.2.1 dL_law_435 rfl (lv_at hl 3 rfl) ?_
                        refine lv_iconst (v := 2) S.1 S.2.1 dL_law_436 (by decide) ?_
                        refine lv_iadd S.1 S.2.1 dL_law_437 ?_
                        refine lv_topi (fun y437 ey437 => ?_)
                        have hw := hw y437 ey437
                        refine va_sld S.1 S.2.1 hX hbl hbA hI.2.2.1 hw.1 dL_law_438 ?_
                        refine lv_topi (fun y438 ey438 => ?_)
                        have hw := hw.2 y438 ey438
                        refine m_vi (cf := fun v => VL h r q cs (mu u425 25 v)) (As := [.int y433, .int y438]) (rest := [.int y425]) S (VL_c25 h r q cs u425) hI (by rw [mu_self]) (c_X12_meanFirst l D (h 25) (r 25) cs y433 y438 (u425 25) _ hw) (cwV 2 S.2.2.2.2 gT_X12_meanFirst rfl rfl rfl (by decide +kernel) ⟨Nat.le_of_ble_eq_true rfl, Nat.le_of_ble_eq_true rfl⟩) (W12_at0 _ _ _ _) rfl rfl hl.1 rfl (Nat.le_of_ble_eq_true rfl) dL_law_439 ⟨Nat.le_of_ble_eq_true rfl, Nat.le_of_ble_eq_true rfl⟩ (fun y439 v439 H locs hw hI => ?_)
                        obtain ⟨u439, eu439⟩ : ∃ z : CS, z = mu u425 25 v439 := ⟨_, rfl⟩
                        have hw := hw u439 eu439
                        replace hI : mI D (mT cs) (fun q : Nat => s.heap.size ≤ q) s.heap s (VL h r q cs u439) H locs := by rw [eu439]; exact hI
                        refine lv_icmp_eq (tgt := 1386) S.1 S.2.1 dL_law_442 (by decide) (fun c442 => ?_) (fun c442 => ?_)
                        · have hw := hw.1 c442
                          exact b1386 B18 hB18 x3 u439 hw H locs ls hI (lv_sub hl [0, 1, 2, 3] rfl)
                        · have hw := hw.2 c442
                          refine lv_iconst (v := 0) S.1 S.2.1 dL_law_445 (by decide) ?_
                          rw [hQ] at hw
                          first
                            | exact absurd (show (0 : Int32) = 1 from hw.2) (by decide)
                            | (refine va_forget (fun q hq => hI.2.2.1.2.2 q hq) ?_; exact lw_ret hx hb hr hlocks dL_law_446)
                      · have hw := hw.2 c33_8
                        by_cases c33_9 : y32 = 9
                        · have hw := hw.1 c33_9
                          refine lv_tableIn (tgt := 447) S.1 S.2.1 dL_law_33 (by rw [c33_9] <;> decide) (by rw [c33_9] <;> decide) (by rw [c33_9] <;> rfl) (by decide) ?_
                          refine lv_aload_n S.1 S.2.1 dL_law_447 rfl (lv_at hl 1 rfl) ?_
                          refine lv_aload_n S.1 S.2.1 dL_law_448 rfl (lv_at hl 0 rfl) ?_
                          refine lv_iload_n S.1 S.2.1 dL_law_449 rfl (lv_at hl 3 rfl) ?_
                          refine lv_iconst (v := 1) S.1 S.2.1 dL_law_450 (by decide) ?_
                          refine lv_iadd S.1 S.2.1 dL_law_451 ?_
                          refine lv_topi (fun y451 ey451 => ?_)
                          have hw := hw y451 ey451
                          refine va_sld S.1 S.2.1 hX hbl hbA hI.2.2.1 hw.1 dL_law_452 ?_
                          refine lv_topi (fun y452 ey452 => ?_)
                          have hw := hw.2 y452 ey452
                          refine lv_aload_n S.1 S.2.1 dL_law_453 rfl (lv_at hl 0 rfl) ?_
                          refine lv_iload_n S.1 S.2.1 dL_law_454 rfl (lv_at hl 3 rfl) ?_
                          refine lv_iconst (v := 2) S.1 S.2.1 dL_law_455 (by decide) ?_
                          refine lv_iadd S.1 S.2.1 dL_law_456 ?_
                          refine lv_topi (fun y456 ey456 => ?_)
                          have hw := hw y456 ey456
                          refine va_sld S.1 S.2.1 hX hbl hbA hI.2.2.1 hw.1 dL_law_457 ?_
                          refine lv_topi (fun y457 ey457 => ?_)
                          have hw := hw.2 y457 ey457
                          refine lv_aload_n S.1 S.2.1 dL_law_458 rfl (lv_at hl 0 rfl) ?_
                          refine lv_iload_n S.1 S.2.1 dL_law_459 rfl (lv_at hl 3 rfl) ?_
                          refine lv_iconst (v := 3) S.1 S.2.1 dL_law_460 (by decide) ?_
                          refine lv_iadd S.1 S.2.1 dL_law_461 ?_
                          refine lv_topi (fun y461 ey461 => ?_)
                          have hw := hw y461 ey461
                          refine va_sld S.1 S.2.1 hX hbl hbA hI.2.2.1 hw.1 dL_law_462 ?_
                          refine lv_topi (fun y462 ey462 => ?_)
                          have hw := hw.2 y462 ey462
                          refine m_vi (cf := fun v => VL h r q cs (embT u v)) (As := [.int y452, .int y457, .int y462]) (rest := []) S (VL_T h r q cs u) hI (by rw [embT_self]) (c_X11_trodden l D h r q cs y452 y457 y462 u _ hw) (cwV 3 S.2.2.2.2 gT_X11_trodden rfl rfl rfl (by decide +kernel) ⟨Nat.le_of_ble_eq_true rfl, Nat.le_of_ble_eq_true rfl⟩) (VT_o0 h r q cs u) rfl rfl hl.1 rfl (Nat.le_of_ble_eq_true rfl) dL_law_463 ⟨Nat.le_of_ble_eq_true rfl, Nat.le_of_ble_eq_true rfl⟩ (fun y463 v463 H locs hw hI => ?_)
                          obtain ⟨u463, eu463⟩ : ∃ z : CS, z = embT u v463 := ⟨_, rfl⟩
                          have hw := hw u463 eu463
                          replace hI : mI D (mT cs) (fun q : Nat => s.heap.size ≤ q) s.heap s (VL h r q cs u463) H locs := by rw [eu463]; exact hI
                          refine lv_aload_n S.1 S.2.1 dL_law_466 rfl (lv_at hl 2 rfl) ?_
                          refine lv_aload_n S.1 S.2.1 dL_law_467 rfl (lv_at hl 0 rfl) ?_
                          refine lv_iload_n S.1 S.2.1 dL_law_468 rfl (lv_at hl 3 rfl) ?_
                          refine lv_iconst (v := 1) S.1 S.2.1 dL_law_469 (by decide) ?_
                          refine lv_iadd S.1 S.2.1 dL_law_470 ?_
                          refine lv_topi (fun y470 ey470 => ?_)
                          have hw := hw y470 ey470
                          refine va_sld S.1 S.2.1 hX hbl hbA hI.2.2.1 hw.1 dL_law_471 ?_
                          refine lv_topi (fun y471 ey471 => ?_)
                          have hw := hw.2 y471 ey471
                          refine lv_aload_n S.1 S.2.1 dL_law_472 rfl (lv_at hl 0 rfl) ?_
                          refine lv_iload_n S.1 S.2.1 dL_law_473 rfl (lv_at hl 3 rfl) ?_
                          refine lv_iconst (v := 2) S.1 S.2.1 dL_law_474 (by decide) ?_
                          refine lv_iadd S.1 S.2.1 dL_law_475 ?_
                          refine lv_topi (fun y475 ey475 => ?_)
                          have hw := hw y475 ey475
                          refine va_sld S.1 S.2.1 hX hbl hbA hI.2.2.1 hw.1 dL_law_476 ?_
                          refine lv_topi (fun y476 ey476 => ?_)
                          have hw := hw.2 y476 ey476
                          refine lv_aload_n S.1 S.2.1 dL_law_477 rfl (lv_at hl 0 rfl) ?_
                          refine lv_iload_n S.1 S.2.1 dL_law_478 rfl (lv_at hl 3 rfl) ?_
                          refine lv_iconst (v := 3) S.1 S.2.1 dL_law_479 (by decide) ?_
                          refine lv_iadd S.1 S.2.1 dL_law_480 ?_
                          refine lv_topi (fun y480 ey480 => ?_)
                          have hw := hw y480 ey480
                          refine va_sld S.1 S.2.1 hX hbl hbA hI.2.2.1 hw.1 dL_law_481 ?_
                          refine lv_topi (fun y481 ey481 => ?_)
                          have hw := hw.2 y481 ey481
                          refine m_vi (cf := fun v => VL h r q cs (mu u463 25 v)) (As := [.int y471, .int y476, .int y481]) (rest := [.int y463]) S (VL_c25 h r q cs u463) hI (by rw [mu_self]) (c_X12_trodden l D (h 25) (r 25) cs y471 y476 y481 (u463 25) _ hw) (cwV 3 S.2.2.2.2 gT_X12_trodden rfl rfl rfl (by decide +kernel) ⟨Nat.le_of_ble_eq_true rfl, Nat.le_of_ble_eq_true rfl⟩) (W12_at0 _ _ _ _) rfl rfl hl.1 rfl (Nat.le_of_ble_eq_true rfl) dL_law_482 ⟨Nat.le_of_ble_eq_true rfl, Nat.le_of_ble_eq_true rfl⟩ (fun y482 v482 H locs hw hI => ?_)
                          obtain ⟨u482, eu482⟩ : ∃ z : CS, z = mu u463 25 v482 := ⟨_, rfl⟩
                          have hw := hw u482 eu482
                          replace hI : mI D (mT cs) (fun q : Nat => s.heap.size ≤ q) s.heap s (VL h r q cs u482) H locs := by rw [eu482]; exact hI
                          refine lv_icmp_eq (tgt := 1386) S.1 S.2.1 dL_law_485 (by decide) (fun c485 => ?_) (fun c485 => ?_)
                          · have hw := hw.1 c485
                            exact b1386 B18 hB18 x3 u482 hw H locs ls hI (lv_sub hl [0, 1, 2, 3] rfl)
                          · have hw := hw.2 c485
                            refine lv_iconst (v := 0) S.1 S.2.1 dL_law_488 (by decide) ?_
                            rw [hQ] at hw
                            first
                              | exact absurd (show (0 : Int32) = 1 from hw.2) (by decide)
                              | (refine va_forget (fun q hq => hI.2.2.1.2.2 q hq) ?_; exact lw_ret hx hb hr hlocks dL_law_489)
                        · have hw := hw.2 c33_9
                          by_cases c33_10 : y32 = 10
                          · have hw := hw.1 c33_10
                            refine lv_tableIn (tgt := 490) S.1 S.2.1 dL_law_33 (by rw [c33_10] <;> decide) (by rw [c33_10] <;> decide) (by rw [c33_10] <;> rfl) (by decide) ?_
                            refine lv_aload_n S.1 S.2.1 dL_law_490 rfl (lv_at hl 1 rfl) ?_
                            refine lv_aload_n S.1 S.2.1 dL_law_491 rfl (lv_at hl 0 rfl) ?_
                            refine lv_iload_n S.1 S.2.1 dL_law_492 rfl (lv_at hl 3 rfl) ?_
                            refine lv_iconst (v := 1) S.1 S.2.1 dL_law_493 (by decide) ?_
                            refine lv_iadd S.1 S.2.1 dL_law_494 ?_
                            refine lv_topi (fun y494 ey494 => ?_)
                            have hw := hw y494 ey494
                            refine va_sld S.1 S.2.1 hX hbl hbA hI.2.2.1 hw.1 dL_law_495 ?_
                            refine lv_topi (fun y495 ey495 => ?_)
                            have hw := hw.2 y495 ey495
                            refine lv_aload_n S.1 S.2.1 dL_law_496 rfl (lv_at hl 0 rfl) ?_
                            refine lv_iload_n S.1 S.2.1 dL_law_497 rfl (lv_at hl 3 rfl) ?_
                            refine lv_iconst (v := 2) S.1 S.2.1 dL_law_498 (by decide) ?_
                            refine lv_iadd S.1 S.2.1 dL_law_499 ?_
                            refine lv_topi (fun y499 ey499 => ?_)
                            have hw := hw y499 ey499
                            refine va_sld S.1 S.2.1 hX hbl hbA hI.2.2.1 hw.1 dL_law_500 ?_
                            refine lv_topi (fun y500 ey500 => ?_)
                            have hw := hw.2 y500 ey500
                            refine m_vi (cf := fun v => VL h r q cs (embT u v)) (As := [.int y495, .int y500]) (rest := []) S (VL_T h r q cs u) hI (by rw [embT_self]) (c_X11_price l D h r q cs y495 y500 u _ hw) (cwV 2 S.2.2.2.2 gT_X11_price rfl rfl rfl (by decide +kernel) ⟨Nat.le_of_ble_eq_true rfl, Nat.le_of_ble_eq_true rfl⟩) (VT_o0 h r q cs u) rfl rfl hl.1 rfl (Nat.le_of_ble_eq_true rfl) dL_law_501 ⟨Nat.le_of_ble_eq_true rfl, Nat.le_of_ble_eq_true rfl⟩ (fun y501 v501 H locs hw hI => ?_)
                            obtain ⟨u501, eu501⟩ : ∃ z : CS, z = embT u v501 := ⟨_, rfl⟩
                            have hw := hw u501 eu501
                            replace hI : mI D (mT cs) (fun q : Nat => s.heap.size ≤ q) s.heap s (VL h r q cs u501) H locs := by rw [eu501]; exact hI
                            refine lv_aload_n S.1 S.2.1 dL_law_504 rfl (lv_at hl 2 rfl) ?_
                            refine lv_aload_n S.1 S.2.1 dL_law_505 rfl (lv_at hl 0 rfl) ?_
                            refine lv_iload_n S.1 S.2.1 dL_law_506 rfl (lv_at hl 3 rfl) ?_
                            refine lv_iconst (v := 1) S.1 S.2.1 dL_law_507 (by decide) ?_
                            refine lv_iadd S.1 S.2.1 dL_law_508 ?_
                            refine lv_topi (fun y508 ey508 => ?_)
                            have hw := hw y508 ey508
                            refine va_sld S.1 S.2.1 hX hbl hbA hI.2.2.1 hw.1 dL_law_509 ?_
                            refine lv_topi (fun y509 ey509 => ?_)
                            have hw := hw.2 y509 ey509
                            refine lv_aload_n S.1 S.2.1 dL_law_510 rfl (lv_at hl 0 rfl) ?_
                            refine lv_iload_n S.1 S.2.1 dL_law_511 rfl (lv_at hl 3 rfl) ?_
                            refine lv_iconst (v := 2) S.1 S.2.1 dL_law_512 (by decide) ?_
                            refine lv_iadd S.1 S.2.1 dL_law_513 ?_
                            refine lv_topi (fun y513 ey513 => ?_)
                            have hw := hw y513 ey513
                            refine va_sld S.1 S.2.1 hX hbl hbA hI.2.2.1 hw.1 dL_law_514 ?_
                            refine lv_topi (fun y514 ey514 => ?_)
                            have hw := hw.2 y514 ey514
                            refine m_vi (cf := fun v => VL h r q cs (mu u501 25 v)) (As := [.int y509, .int y514]) (rest := [.int y501]) S (VL_c25 h r q cs u501) hI (by rw [mu_self]) (c_X12_price l D (h 25) (r 25) cs y509 y514 (u501 25) _ hw) (cwV 2 S.2.2.2.2 gT_X12_price rfl rfl rfl (by decide +kernel) ⟨Nat.le_of_ble_eq_true rfl, Nat.le_of_ble_eq_true rfl⟩) (W12_at0 _ _ _ _) rfl rfl hl.1 rfl (Nat.le_of_ble_eq_true rfl) dL_law_515 ⟨Nat.le_of_ble_eq_true rfl, Nat.le_of_ble_eq_true rfl⟩ (fun y515 v515 H locs hw hI => ?_)
                            obtain ⟨u515, eu515⟩ : ∃ z : CS, z = mu u501 25 v515 := ⟨_, rfl⟩
                            have hw := hw u515 eu515
                            replace hI : mI D (mT cs) (fun q : Nat => s.heap.size ≤ q) s.heap s (VL h r q cs u515) H locs := by rw [eu515]; exact hI
                            refine lv_icmp_eq (tgt := 1386) S.1 S.2.1 dL_law_518 (by decide) (fun c518 => ?_) (fun c518 => ?_)
                            · have hw := hw.1 c518
                              exact b1386 B18 hB18 x3 u515 hw H locs ls hI (lv_sub hl [0, 1, 2, 3] rfl)
                            · have hw := hw.2 c518
                              refine lv_iconst (v := 0) S.1 S.2.1 dL_law_521 (by decide) ?_
                              rw [hQ] at hw
                              first
                                | exact absurd (show (0 : Int32) = 1 from hw.2) (by decide)
                                | (refine va_forget (fun q hq => hI.2.2.1.2.2 q hq) ?_; exact lw_ret hx hb hr hlocks dL_law_522)
                          · have hw := hw.2 c33_10
                            by_cases c33_11 : y32 = 11
                            · have hw := hw.1 c33_11
                              refine lv_tableIn (tgt := 523) S.1 S.2.1 dL_law_33 (by rw [c33_11] <;> decide) (by rw [c33_11] <;> decide) (by rw [c33_11] <;> rfl) (by decide) ?_
                              refine lv_aload_n S.1 S.2.1 dL_law_523 rfl (lv_at hl 1 rfl) ?_
                              refine lv_aload_n S.1 S.2.1 dL_law_524 rfl (lv_at hl 0 rfl) ?_
                              refine lv_iload_n S.1 S.2.1 dL_law_525 rfl (lv_at hl 3 rfl) ?_
                              refine lv_iconst (v := 1) S.1 S.2.1 dL_law_526 (by decide) ?_
                              refine lv_iadd S.1 S.2.1 dL_law_527 ?_
                              refine lv_topi (fun y527 ey527 => ?_)
                              have hw := hw y527 ey527
                              refine va_sld S.1 S.2.1 hX hbl hbA hI.2.2.1 hw.1 dL_law_528 ?_
                              refine lv_topi (fun y528 ey528 => ?_)
                              have hw := hw.2 y528 ey528
                              refine lv_aload_n S.1 S.2.1 dL_law_529 rfl (lv_at hl 0 rfl) ?_
                              refine lv_iload_n S.1 S.2.1 dL_law_530 rfl (lv_at hl 3 rfl) ?_
                              refine lv_iconst (v := 2) S.1 S.2.1 dL_law_531 (by decide) ?_
                              refine lv_iadd S.1 S.2.1 dL_law_532 ?_
                              refine lv_topi (fun y532 ey532 => ?_)
                              have hw := hw y532 ey532
                              refine va_sld S.1 S.2.1 hX hbl hbA hI.2.2.1 hw.1 dL_law_533 ?_
                              refine lv_topi (fun y533 ey533 => ?_)
                              have hw := hw.2 y533 ey533
                              refine lv_aload_n S.1 S.2.1 dL_law_534 rfl (lv_at hl 0 rfl) ?_
                              refine lv_iload_n S.1 S.2.1 dL_law_535 rfl (lv_at hl 3 rfl) ?_
                              refine lv_iconst (v := 3) S.1 S.2.1 dL_law_536 (by decide) ?_
                              refine lv_iadd S.1 S.2.1 dL_law_537 ?_
                              refine lv_topi (fun y537 ey537 => ?_)
                              have hw := hw y537 ey537
                              refine va_sld S.1 S.2.1 hX hbl hbA hI.2.2.1 hw.1 dL_law_538 ?_
                              refine lv_topi (fun y538 ey538 => ?_)
                              have hw := hw.2 y538 ey538
                              refine m_vi (cf := fun v => VL h r q cs (embT u v)) (As := [.int y528, .int y533, .int y538]) (rest := []) S (VL_T h r q cs u) hI (by rw [embT_self]) (c_X11_two l D h r q cs y528 y533 y538 u _ hw) (cwV 3 S.2.2.2.2 gT_X11_two rfl rfl rfl (by decide +kernel) ⟨Nat.le_of_ble_eq_true rfl, Nat.le_of_ble_eq_true rfl⟩) (VT_o0 h r q cs u) rfl rfl hl.1 rfl (Nat.le_of_ble_eq_true rfl) dL_law_539 ⟨Nat.le_of_ble_eq_true rfl, Nat.le_of_ble_eq_true rfl⟩ (fun y539 v539 H locs hw hI => ?_)
                              obtain ⟨u539, eu539⟩ : ∃ z : CS, z = embT u v539 := ⟨_, rfl⟩
                              have hw := hw u539 eu539
                              replace hI : mI D (mT cs) (fun q : Nat => s.heap.size ≤ q) s.heap s (VL h r q cs u539) H locs := by rw [eu539]; exact hI
                              refine lv_aload_n S.1 S.2.1 dL_law_542 rfl (lv_at hl 2 rfl) ?_
                              refine lv_aload_n S.1 S.2.1 dL_law_543 rfl (lv_at hl 0 rfl) ?_
                              refine lv_iload_n S.1 S.2.1 dL_law_544 rfl (lv_at hl 3 rfl) ?_
                              refine lv_iconst (v := 1) S.1 S.2.1 dL_law_545 (by decide) ?_
                              refine lv_iadd S.1 S.2.1 dL_law_546 ?_
                              refine lv_topi (fun y546 ey546 => ?_)
                              have hw := hw y546 ey546
                              refine va_sld S.1 S.2.1 hX hbl hbA hI.2.2.1 hw.1 dL_law_547 ?_
                              refine lv_topi (fun y547 ey547 => ?_)
                              have hw := hw.2 y547 ey547
                              refine lv_aload_n S.1 S.2.1 dL_law_548 rfl (lv_at hl 0 rfl) ?_
                              refine lv_iload_n S.1 S.2.1 dL_law_549 rfl (lv_at hl 3 rfl) ?_
                              refine lv_iconst (v := 2) S.1 S.2.1 dL_law_550 (by decide) ?_
                              refine lv_iadd S.1 S.2.1 dL_law_551 ?_
                              refine lv_topi (fun y551 ey551 => ?_)
                              have hw := hw y551 ey551
                              refine va_sld S.1 S.2.1 hX hbl hbA hI.2.2.1 hw.1 dL_law_552 ?_
                              refine lv_topi (fun y552 ey552 => ?_)
                              have hw := hw.2 y552 ey552
                              refine lv_aload_n S.1 S.2.1 dL_law_553 rfl (lv_at hl 0 rfl) ?_
                              refine lv_iload_n S.1 S.2.1 dL_law_554 rfl (lv_at hl 3 rfl) ?_
                              refine lv_iconst (v := 3) S.1 S.2.1 dL_law_555 (by decide) ?_
                              refine lv_iadd S.1 S.2.1 dL_law_556 ?_
                              refine lv_topi (fun y556 ey556 => ?_)
                              have hw := hw y556 ey556
                              refine va_sld S.1 S.2.1 hX hbl hbA hI.2.2.1 hw.1 dL_law_557 ?_
                              refine lv_topi (fun y557 ey557 => ?_)
                              have hw := hw.2 y557 ey557
                              refine m_vi (cf := fun v => VL h r q cs (mu u539 25 v)) (As := [.int y547, .int y552, .int y557]) (rest := [.int y539]) S (VL_c25 h r q cs u539) hI (by rw [mu_self]) (c_X12_two l D (h 25) (r 25) cs y547 y552 y557 (u539 25) _ hw) (cwV 3 S.2.2.2.2 gT_X12_two rfl rfl rfl (by decide +kernel) ⟨Nat.le_of_ble_eq_true rfl, Nat.le_of_ble_eq_true rfl⟩) (W12_at0 _ _ _ _) rfl rfl hl.1 rfl (Nat.le_of_ble_eq_true rfl) dL_law_558 ⟨Nat.le_of_ble_eq_true rfl, Nat.le_of_ble_eq_true rfl⟩ (fun y558 v558 H locs hw hI => ?_)
                              obtain ⟨u558, eu558⟩ : ∃ z : CS, z = mu u539 25 v558 := ⟨_, rfl⟩
                              have hw := hw u558 eu558
                              replace hI : mI D (mT cs) (fun q : Nat => s.heap.size ≤ q) s.heap s (VL h r q cs u558) H locs := by rw [eu558]; exact hI
                              refine lv_icmp_eq (tgt := 1386) S.1 S.2.1 dL_law_561 (by decide) (fun c561 => ?_) (fun c561 => ?_)
                              · have hw := hw.1 c561
                                exact b1386 B18 hB18 x3 u558 hw H locs ls hI (lv_sub hl [0, 1, 2, 3] rfl)
                              · have hw := hw.2 c561
                                refine lv_iconst (v := 0) S.1 S.2.1 dL_law_564 (by decide) ?_
                                rw [hQ] at hw
                                first
                                  | exact absurd (show (0 : Int32) = 1 from hw.2) (by decide)
                                  | (refine va_forget (fun q hq => hI.2.2.1.2.2 q hq) ?_; exact lw_ret hx hb hr hlocks dL_law_565)
                            · have hw := hw.2 c33_11
                              by_cases c33_12 : y32 = 12
                              · have hw := hw.1 c33_12
                                refine lv_tableIn (tgt := 566) S.1 S.2.1 dL_law_33 (by rw [c33_12] <;> decide) (by rw [c33_12] <;> decide) (by rw [c33_12] <;> rfl) (by decide) ?_
                                refine lv_aload_n S.1 S.2.1 dL_law_566 rfl (lv_at hl 1 rfl) ?_
                                refine lv_aload_n S.1 S.2.1 dL_law_567 rfl (lv_at hl 0 rfl) ?_
                                refine lv_iload_n S.1 S.2.1 dL_law_568 rfl (lv_at hl 3 rfl) ?_
                                refine lv_iconst (v := 1) S.1 S.2.1 dL_law_569 (by decide) ?_
                                refine lv_iadd S.1 S.2.1 dL_law_570 ?_
                                refine lv_topi (fun y570 ey570 => ?_)
                                have hw := hw y570 ey570
                                refine va_sld S.1 S.2.1 hX hbl hbA hI.2.2.1 hw.1 dL_law_571 ?_
                                refine lv_topi (fun y571 ey571 => ?_)
                                have hw := hw.2 y571 ey571
                                refine lv_aload_n S.1 S.2.1 dL_law_572 rfl (lv_at hl 0 rfl) ?_
                                refine lv_iload_n S.1 S.2.1 dL_law_573 rfl (lv_at hl 3 rfl) ?_
                                refine lv_iconst (v := 2) S.1 S.2.1 dL_law_574 (by decide) ?_
                                refine lv_iadd S.1 S.2.1 dL_law_575 ?_
                                refine lv_topi (fun y575 ey575 => ?_)
                                have hw := hw y575 ey575
                                refine va_sld S.1 S.2.1 hX hbl hbA hI.2.2.1 hw.1 dL_law_576 ?_
                                refine lv_topi (fun y576 ey576 => ?_)
                                have hw := hw.2 y576 ey576
                                refine lv_aload_n S.1 S.2.1 dL_law_577 rfl (lv_at hl 0 rfl) ?_
                                refine lv_iload_n S.1 S.2.1 dL_law_578 rfl (lv_at hl 3 rfl) ?_
                                refine lv_iconst (v := 3) S.1 S.2.1 dL_law_579 (by decide) ?_
                                refine lv_iadd S.1 S.2.1 dL_law_580 ?_
                                refine lv_topi (fun y580 ey580 => ?_)
                                have hw := hw y580 ey580
                                refine va_sld S.1 S.2.1 hX hbl hbA hI.2.2.1 hw.1 dL_law_581 ?_
                                refine lv_topi (fun y581 ey581 => ?_)
                                have hw := hw.2 y581 ey581
                                refine m_vi (cf := fun v => VL h r q cs (embT u v)) (As := [.int y571, .int y576, .int y581]) (rest := []) S (VL_T h r q cs u) hI (by rw [embT_self]) (c_X11_ruled l D h r q cs y571 y576 y581 u _ hw) (cwV 3 S.2.2.2.2 gT_X11_ruled rfl rfl rfl (by decide +kernel) ⟨Nat.le_of_ble_eq_true rfl, Nat.le_of_ble_eq_true rfl⟩) (VT_o0 h r q cs u) rfl rfl hl.1 rfl (Nat.le_of_ble_eq_true rfl) dL_law_582 ⟨Nat.le_of_ble_eq_true rfl, Nat.le_of_ble_eq_true rfl⟩ (fun y582 v582 H locs hw hI => ?_)
                                obtain ⟨u582, eu582⟩ : ∃ z : CS, z = embT u v582 := ⟨_, rfl⟩
                                have hw := hw u582 eu582
                                replace hI : mI D (mT cs) (fun q : Nat => s.heap.size ≤ q) s.heap s (VL h r q cs u582) H locs := by rw [eu582]; exact hI
                                refine lv_aload_n S.1 S.2.1 dL_law_585 rfl (lv_at hl 2 rfl) ?_
                                refine lv_aload_n S.1 S.2.1 dL_law_586 rfl (lv_at hl 0 rfl) ?_
                                refine lv_iload_n S.1 S.2.1 dL_law_587 rfl (lv_at hl 3 rfl) ?_
                                refine lv_iconst (v := 1) S.1 S.2.1 dL_law_588 (by decide) ?_
                                refine lv_iadd S.1 S.2.1 dL_law_589 ?_
                                refine lv_topi (fun y589 ey589 => ?_)
                                have hw := hw y589 ey589
                                refine va_sld S.1 S.2.1 hX hbl hbA hI.2.2.1 hw.1 dL_law_590 ?_
                                refine lv_topi (fun y590 ey590 => ?_)
                                have hw := hw.2 y590 ey590
                                refine lv_aload_n S.1 S.2.1 dL_law_591 rfl (lv_at hl 0 rfl) ?_
                                refine lv_iload_n S.1 S.2.1 dL_law_592 rfl (lv_at hl 3 rfl) ?_
                                refine lv_iconst (v := 2) S.1 S.2.1 dL_law_593 (by decide) ?_
                                refine lv_iadd S.1 S.2.1 dL_law_594 ?_
                                refine lv_topi (fun y594 ey594 => ?_)
                                have hw := hw y594 ey594
                                refine va_sld S.1 S.2.1 hX hbl hbA hI.2.2.1 hw.1 dL_law_595 ?_
                                refine lv_topi (fun y595 ey595 => ?_)
                                have hw := hw.2 y595 ey595
                                refine lv_aload_n S.1 S.2.1 dL_law_596 rfl (lv_at hl 0 rfl) ?_
                                refine lv_iload_n S.1 S.2.1 dL_law_597 rfl (lv_at hl 3 rfl) ?_
                                refine lv_iconst (v := 3) S.1 S.2.1 dL_law_598 (by decide) ?_
                                refine lv_iadd S.1 S.2.1 dL_law_599 ?_
                                refine lv_topi (fun y599 ey599 => ?_)
                                have hw := hw y599 ey599
                                refine va_sld S.1 S.2.1 hX hbl hbA hI.2.2.1 hw.1 dL_law_600 ?_
                                refine lv_topi (fun y600 ey600 => ?_)
                                have hw := hw.2 y600 ey600
                                refine m_vi (cf := fun v => VL h r q cs (mu u582 25 v)) (As := [.int y590, .int y595, .int y600]) (rest := [.int y582]) S (VL_c25 h r q cs u582) hI (by rw [mu_self]) (c_X12_ruled l D (h 25) (r 25) cs y590 y595 y600 (u582 25) _ hw) (cwV 3 S.2.2.2.2 gT_X12_ruled rfl rfl rfl (by decide +kernel) ⟨Nat.le_of_ble_eq_true rfl, Nat.le_of_ble_eq_true rfl⟩) (W12_at0 _ _ _ _) rfl rfl hl.1 rfl (Nat.le_of_ble_eq_true rfl) dL_law_601 ⟨Nat.le_of_ble_eq_true rfl, Nat.le_of_ble_eq_true rfl⟩ (fun y601 v601 H locs hw hI => ?_)
                                obtain ⟨u601, eu601⟩ : ∃ z : CS, z = mu u582 25 v601 := ⟨_, rfl⟩
                                have hw := hw u601 eu601
                                replace hI : mI D (mT cs) (fun q : Nat => s.heap.size ≤ q) s.heap s (VL h r q cs u601) H locs := by rw [eu601]; exact hI
                                refine lv_icmp_eq (tgt := 1386) S.1 S.2.1 dL_law_604 (by decide) (fun c604 => ?_) (fun c604 => ?_)
                                · have hw := hw.1 c604
                                  exact b1386 B18 hB18 x3 u601 hw H locs ls hI (lv_sub hl [0, 1, 2, 3] rfl)
                                · have hw := hw.2 c604
                                  refine lv_iconst (v := 0) S.1 S.2.1 dL_law_607 (by decide) ?_
                                  rw [hQ] at hw
                                  first
                                    | exact absurd (show (0 : Int32) = 1 from hw.2) (by decide)
                                    | (refine va_forget (fun q hq => hI.2.2.1.2.2 q hq) ?_; exact lw_ret hx hb hr hlocks dL_law_608)
                              · have hw := hw.2 c33_12
                                by_cases c33_13 : y32 = 13
                                · have hw := hw.1 c33_13
                                  refine lv_tableIn (tgt := 609) S.1 S.2.1 dL_law_33 (by rw [c33_13] <;> decide) (by rw [c33_13] <;> decide) (by rw [c33_13] <;> rfl) (by decide) ?_
                                  refine lv_aload_n S.1 S.2.1 dL_law_609 rfl (lv_at hl 1 rfl) ?_
                                  refine lv_aload_n S.1 S.2.1 dL_law_610 rfl (lv_at hl 0 rfl) ?_
                                  refine lv_iload_n S.1 S.2.1 dL_law_611 rfl (lv_at hl 3 rfl) ?_
                                  refine lv_iconst (v := 1) S.1 S.2.1 dL_law_612 (by decide) ?_
                                  refine lv_iadd S.1 S.2.1 dL_law_613 ?_
                                  refine lv_topi (fun y613 ey613 => ?_)
                                  have hw := hw y613 ey613
                                  refine va_sld S.1 S.2.1 hX hbl hbA hI.2.2.1 hw.1 dL_law_614 ?_
                                  refine lv_topi (fun y614 ey614 => ?_)
                                  have hw := hw.2 y614 ey614
                                  refine lv_aload_n S.1 S.2.1 dL_law_615 rfl (lv_at hl 0 rfl) ?_
                                  refine lv_iload_n S.1 S.2.1 dL_law_616 rfl (lv_at hl 3 rfl) ?_
                                  refine lv_iconst (v := 2) S.1 S.2.1 dL_law_617 (by decide) ?_
                                  refine lv_iadd S.1 S.2.1 dL_law_618 ?_
                                  refine lv_topi (fun y618 ey618 => ?_)
                                  have hw := hw y618 ey618
                                  refine va_sld S.1 S.2.1 hX hbl hbA hI.2.2.1 hw.1 dL_law_619 ?_
                                  refine lv_topi (fun y619 ey619 => ?_)
                                  have hw := hw.2 y619 ey619
                                  refine lv_aload_n S.1 S.2.1 dL_law_620 rfl (lv_at hl 0 rfl) ?_
                                  refine lv_iload_n S.1 S.2.1 dL_law_621 rfl (lv_at hl 3 rfl) ?_
                                  refine lv_iconst (v := 3) S.1 S.2.1 dL_law_622 (by decide) ?_
                                  refine lv_iadd S.1 S.2.1 dL_law_623 ?_
                                  refine lv_topi (fun y623 ey623 => ?_)
                                  have hw := hw y623 ey623
                                  refine va_sld S.1 S.2.1 hX hbl hbA hI.2.2.1 hw.1 dL_law_624 ?_
                                  refine lv_topi (fun y624 ey624 => ?_)
                                  have hw := hw.2 y624 ey624
                                  refine m_vi (cf := fun v => VL h r q cs (embT u v)) (As := [.int y614, .int y619, .int y624]) (rest := []) S (VL_T h r q cs u) hI (by rw [embT_self]) (c_X11_step l D h r q cs y614 y619 y624 u _ hw) (cwV 3 S.2.2.2.2 gT_X11_step rfl rfl rfl (by decide +kernel) ⟨Nat.le_of_ble_eq_true rfl, Nat.le_of_ble_eq_true rfl⟩) (VT_o0 h r q cs u) rfl rfl hl.1 rfl (Nat.le_of_ble_eq_true rfl) dL_law_625 ⟨Nat.le_of_ble_eq_true rfl, Nat.le_of_ble_eq_true rfl⟩ (fun y625 v625 H locs hw hI => ?_)
                                  obtain ⟨u625, eu625⟩ : ∃ z : CS, z = embT u v625 := ⟨_, rfl⟩
                                  have hw := hw u625 eu625
                                  replace hI : mI D (mT cs) (fun q : Nat => s.heap.size ≤ q) s.heap s (VL h r q cs u625) H locs := by rw [eu625]; exact hI
                                  refine lv_aload_n S.1 S.2.1 dL_law_628 rfl (lv_at hl 2 rfl) ?_
                                  refine lv_aload_n S.1 S.2.1 dL_law_629 rfl (lv_at hl 0 rfl) ?_
                                  refine lv_iload_n S.1 S.2.1 dL_law_630 rfl (lv_at hl 3 rfl) ?_
                                  refine lv_iconst (v := 1) S.1 S.2.1 dL_law_631 (by decide) ?_
                                  refine lv_iadd S.1 S.2.1 dL_law_632 ?_
                                  refine lv_topi (fun y632 ey632 => ?_)
                                  have hw := hw y632 ey632
                                  refine va_sld S.1 S.2.1 hX hbl hbA hI.2.2.1 hw.1 dL_law_633 ?_
                                  refine lv_topi (fun y633 ey633 => ?_)
                                  have hw := hw.2 y633 ey633
                                  refine lv_aload_n S.1 S.2.1 dL_law_634 rfl (lv_at hl 0 rfl) ?_
                                  refine lv_iload_n S.1 S.2.1 dL_law_635 rfl (lv_at hl 3 rfl) ?_
                                  refine lv_iconst (v := 2) S.1 S.2.1 dL_law_636 (by decide) ?_
                                  refine lv_iadd S.1 S.2.1 dL_law_637 ?_
                                  refine lv_topi (fun y637 ey637 => ?_)
                                  have hw := hw y637 ey637
                                  refine va_sld S.1 S.2.1 hX hbl hbA hI.2.2.1 hw.1 dL_law_638 ?_
                                  refine lv_topi (fun y638 ey638 => ?_)
                                  have hw := hw.2 y638 ey638
                                  refine lv_aload_n S.1 S.2.1 dL_law_639 rfl (lv_at hl 0 rfl) ?_
                                  refine lv_iload_n S.1 S.2.1 dL_law_640 rfl (lv_at hl 3 rfl) ?_
                                  refine lv_iconst (v := 3) S.1 S.2.1 dL_law_641 (by decide) ?_
                                  refine lv_iadd S.1 S.2.1 dL_law_642 ?_
                                  refine lv_topi (fun y642 ey642 => ?_)
                                  have hw := hw y642 ey642
                                  refine va_sld S.1 S.2.1 hX hbl hbA hI.2.2.1 hw.1 dL_law_643 ?_
                                  refine lv_topi (fun y643 ey643 => ?_)
                                  have hw := hw.2 y643 ey643
                                  refine m_vi (cf := fun v => VL h r q cs (mu u625 25 v)) (As := [.int y633, .int y638, .int y643]) (rest := [.int y625]) S (VL_c25 h r q cs u625) hI (by rw [mu_self]) (c_X12_step l D (h 25) (r 25) cs y633 y638 y643 (u625 25) _ hw) (cwV 3 S.2.2.2.2 gT_X12_step rfl rfl rfl (by decide +kernel) ⟨Nat.le_of_ble_eq_true rfl, Nat.le_of_ble_eq_true rfl⟩) (W12_at0 _ _ _ _) rfl rfl hl.1 rfl (Nat.le_of_ble_eq_true rfl) dL_law_644 ⟨Nat.le_of_ble_eq_true rfl, Nat.le_of_ble_eq_true rfl⟩ (fun y644 v644 H locs hw hI => ?_)
                                  obtain ⟨u644, eu644⟩ : ∃ z : CS, z = mu u625 25 v644 := ⟨_, rfl⟩
                                  have hw := hw u644 eu644
                                  replace hI : mI D (mT cs) (fun q : Nat => s.heap.size ≤ q) s.heap s (VL h r q cs u644) H locs := by rw [eu644]; exact hI
                                  refine lv_icmp_eq (tgt := 1386) S.1 S.2.1 dL_law_647 (by decide) (fun c647 => ?_) (fun c647 => ?_)
                                  · have hw := hw.1 c647
                                    exact b1386 B18 hB18 x3 u644 hw H locs ls hI (lv_sub hl [0, 1, 2, 3] rfl)
                                  · have hw := hw.2 c647
                                    refine lv_iconst (v := 0) S.1 S.2.1 dL_law_650 (by decide) ?_
                                    rw [hQ] at hw
                                    first
                                      | exact absurd (show (0 : Int32) = 1 from hw.2) (by decide)
                                      | (refine va_forget (fun q hq => hI.2.2.1.2.2 q hq) ?_; exact lw_ret hx hb hr hlocks dL_law_651)
                                · have hw := hw.2 c33_13
                                  by_cases c33_14 : y32 = 14
                                  · have hw := hw.1 c33_14
                                    refine lv_tableIn (tgt := 652) S.1 S.2.1 dL_law_33 (by rw [c33_14] <;> decide) (by rw [c33_14] <;> decide) (by rw [c33_14] <;> rfl) (by decide) ?_
                                    refine lv_aload_n S.1 S.2.1 dL_law_652 rfl (lv_at hl 1 rfl) ?_
                                    refine lv_aload_n S.1 S.2.1 dL_law_653 rfl (lv_at hl 0 rfl) ?_
                                    refine lv_iload_n S.1 S.2.1 dL_law_654 rfl (lv_at hl 3 rfl) ?_
                                    refine lv_iconst (v := 1) S.1 S.2.1 dL_law_655 (by decide) ?_
                                    refine lv_iadd S.1 S.2.1 dL_law_656 ?_
                                    refine lv_topi (fun y656 ey656 => ?_)
                                    have hw := hw y656 ey656
                                    refine va_sld S.1 S.2.1 hX hbl hbA hI.2.2.1 hw.1 dL_law_657 ?_
                                    refine lv_topi (fun y657 ey657 => ?_)
                                    have hw := hw.2 y657 ey657
                                    refine lv_aload_n S.1 S.2.1 dL_law_658 rfl (lv_at hl 0 rfl) ?_
                                    refine lv_iload_n S.1 S.2.1 dL_law_659 rfl (lv_at hl 3 rfl) ?_
                                    refine lv_iconst (v := 2) S.1 S.2.1 dL_law_660 (by decide) ?_
                                    refine lv_iadd S.1 S.2.1 dL_law_661 ?_
                                    refine lv_topi (fun y661 ey661 => ?_)
                                    have hw := hw y661 ey661
                                    refine va_sld S.1 S.2.1 hX hbl hbA hI.2.2.1 hw.1 dL_law_662 ?_
                                    refine lv_topi (fun y662 ey662 => ?_)
                                    have hw := hw.2 y662 ey662
                                    refine m_vl (cf := fun v => VL h r q cs (embT u v)) (As := [.int y657, .int y662]) (rest := []) S (VL_T h r q cs u) hI (by rw [embT_self]) (c_X11_shards l D h r q cs y657 y662 u _ hw) (cwV 2 S.2.2.2.2 gT_X11_shards rfl rfl rfl (by decide +kernel) ⟨Nat.le_of_ble_eq_true rfl, Nat.le_of_ble_eq_true rfl⟩) (VT_o0 h r q cs u) rfl rfl hl.1 rfl (Nat.le_of_ble_eq_true rfl) dL_law_663 ⟨Nat.le_of_ble_eq_true rfl, Nat.le_of_ble_eq_true rfl⟩ (fun y663 v663 H locs hw hI => ?_)
                                    obtain ⟨u663, eu663⟩ : ∃ z : CS, z = embT u v663 := ⟨_, rfl⟩
                                    have hw := hw u663 eu663
                                    replace hI : mI D (mT cs) (fun q : Nat => s.heap.size ≤ q) s.heap s (VL h r q cs u663) H locs := by rw [eu663]; exact hI
                                    refine lv_aload_n S.1 S.2.1 dL_law_666 rfl (lv_at hl 2 rfl) ?_
                                    refine lv_aload_n S.1 S.2.1 dL_law_667 rfl (lv_at hl 0 rfl) ?_
                                    refine lv_iload_n S.1 S.2.1 dL_law_668 rfl (lv_at hl 3 rfl) ?_
                                    refine lv_iconst (v := 1) S.1 S.2.1 dL_law_669 (by decide) ?_
                                    refine lv_iadd S.1 S.2.1 dL_law_670 ?_
                                    refine lv_topi (fun y670 ey670 => ?_)
                                    have hw := hw y670 ey670
                                    refine va_sld S.1 S.2.1 hX hbl hbA hI.2.2.1 hw.1 dL_law_671 ?_
                                    refine lv_topi (fun y671 ey671 => ?_)
                                    have hw := hw.2 y671 ey671
                                    refine lv_aload_n S.1 S.2.1 dL_law_672 rfl (lv_at hl 0 rfl) ?_
                                    refine lv_iload_n S.1 S.2.1 dL_law_673 rfl (lv_at hl 3 rfl) ?_
                                    refine lv_iconst (v := 2) S.1 S.2.1 dL_law_674 (by decide) ?_
                                    refine lv_iadd S.1 S.2.1 dL_law_675 ?_
                                    refine lv_topi (fun y675 ey675 => ?_)
                                    have hw := hw y675 ey675
                                    refine va_sld S.1 S.2.1 hX hbl hbA hI.2.2.1 hw.1 dL_law_676 ?_
                                    refine lv_topi (fun y676 ey676 => ?_)
                                    have hw := hw.2 y676 ey676
                                    refine m_vl (cf := fun v => VL h r q cs (mu u663 25 v)) (As := [.int y671, .int y676]) (rest := [.long y663]) S (VL_c25 h r q cs u663) hI (by rw [mu_self]) (c_X12_shards l D (h 25) (r 25) cs y671 y676 (u663 25) _ hw) (cwV 2 S.2.2.2.2 gT_X12_shards rfl rfl rfl (by decide +kernel) ⟨Nat.le_of_ble_eq_true rfl, Nat.le_of_ble_eq_true rfl⟩) (W12_at0 _ _ _ _) rfl rfl hl.1 rfl (Nat.le_of_ble_eq_true rfl) dL_law_677 ⟨Nat.le_of_ble_eq_true rfl, Nat.le_of_ble_eq_true rfl⟩ (fun y677 v677 H locs hw hI => ?_)
                                    obtain ⟨u677, eu677⟩ : ∃ z : CS, z = mu u663 25 v677 := ⟨_, rfl⟩
                                    have hw := hw u677 eu677
                                    replace hI : mI D (mT cs) (fun q : Nat => s.heap.size ≤ q) s.heap s (VL h r q cs u677) H locs := by rw [eu677]; exact hI
                                    refine W.lcmp S.1 S.2.1 dL_law_680 ?_
                                    refine lv_topi (fun y680 ey680 => ?_)
                                    have hw := hw y680 ey680
                                    refine lv_if_eq (tgt := 1386) S.1 S.2.1 dL_law_681 (by decide) (fun c681 => ?_) (fun c681 => ?_)
                                    · have hw := hw.1 c681
                                      exact b1386 B18 hB18 x3 u677 hw H locs ls hI (lv_sub hl [0, 1, 2, 3] rfl)
                                    · have hw := hw.2 c681
                                      refine lv_iconst (v := 0) S.1 S.2.1 dL_law_684 (by decide) ?_
                                      rw [hQ] at hw
                                      first
                                        | exact absurd (show (0 : Int32) = 1 from hw.2) (by decide)
                                        | (refine va_forget (fun q hq => hI.2.2.1.2.2 q hq) ?_; exact lw_ret hx hb hr hlocks dL_law_685)
                                  · have hw := hw.2 c33_14
                                    by_cases c33_15 : y32 = 15
                                    · have hw := hw.1 c33_15
                                      refine lv_tableIn (tgt := 686) S.1 S.2.1 dL_law_33 (by rw [c33_15] <;> decide) (by rw [c33_15] <;> decide) (by rw [c33_15] <;> rfl) (by decide) ?_
                                      refine lv_aload_n S.1 S.2.1 dL_law_686 rfl (lv_at hl 1 rfl) ?_
                                      refine lv_aload_n S.1 S.2.1 dL_law_687 rfl (lv_at hl 0 rfl) ?_
                                      refine lv_iload_n S.1 S.2.1 dL_law_688 rfl (lv_at hl 3 rfl) ?_
                                      refine lv_iconst (v := 1) S.1 S.2.1 dL_law_689 (by decide) ?_
                                      refine lv_iadd S.1 S.2.1 dL_law_690 ?_
                                      refine lv_topi (fun y690 ey690 => ?_)
                                      have hw := hw y690 ey690
                                      refine va_sld S.1 S.2.1 hX hbl hbA hI.2.2.1 hw.1 dL_law_691 ?_
                                      refine lv_topi (fun y691 ey691 => ?_)
                                      have hw := hw.2 y691 ey691
                                      refine m_vi (cf := fun v => VL h r q cs (embT u v)) (As := [.int y691]) (rest := []) S (VL_T h r q cs u) hI (by rw [embT_self]) (c_X11_judge l D h r q cs y691 u _ hw) (cwV 1 S.2.2.2.2 gT_X11_judge rfl rfl rfl (by decide +kernel) ⟨Nat.le_of_ble_eq_true rfl, Nat.le_of_ble_eq_true rfl⟩) (VT_o0 h r q cs u) rfl rfl hl.1 rfl (Nat.le_of_ble_eq_true rfl) dL_law_692 ⟨Nat.le_of_ble_eq_true rfl, Nat.le_of_ble_eq_true rfl⟩ (fun y692 v692 H locs hw hI => ?_)
                                      obtain ⟨u692, eu692⟩ : ∃ z : CS, z = embT u v692 := ⟨_, rfl⟩
                                      have hw := hw u692 eu692
                                      replace hI : mI D (mT cs) (fun q : Nat => s.heap.size ≤ q) s.heap s (VL h r q cs u692) H locs := by rw [eu692]; exact hI
                                      refine lv_aload_n S.1 S.2.1 dL_law_695 rfl (lv_at hl 2 rfl) ?_
                                      refine lv_aload_n S.1 S.2.1 dL_law_696 rfl (lv_at hl 0 rfl) ?_
                                      refine lv_iload_n S.1 S.2.1 dL_law_697 rfl (lv_at hl 3 rfl) ?_
                                      refine lv_iconst (v := 1) S.1 S.2.1 dL_law_698 (by decide) ?_
                                      refine lv_iadd S.1 S.2.1 dL_law_699 ?_
                                      refine lv_topi (fun y699 ey699 => ?_)
                                      have hw := hw y699 ey699
                                      refine va_sld S.1 S.2.1 hX hbl hbA hI.2.2.1 hw.1 dL_law_700 ?_
                                      refine lv_topi (fun y700 ey700 => ?_)
                                      have hw := hw.2 y700 ey700
                                      refine m_vi (cf := fun v => VL h r q cs (mu u692 25 v)) (As := [.int y700]) (rest := [.int y692]) S (VL_c25 h r q cs u692) hI (by rw [mu_self]) (c_X12_judge l D (h 25) (r 25) cs y700 (u692 25) _ hw) (cwV 1 S.2.2.2.2 gT_X12_judge rfl rfl rfl (by decide +kernel) ⟨Nat.le_of_ble_eq_true rfl, Nat.le_of_ble_eq_true rfl⟩) (W12_at0 _ _ _ _) rfl rfl hl.1 rfl (Nat.le_of_ble_eq_true rfl) dL_law_701 ⟨Nat.le_of_ble_eq_true rfl, Nat.le_of_ble_eq_true rfl⟩ (fun y701 v701 H locs hw hI => ?_)
                                      obtain ⟨u701, eu701⟩ : ∃ z : CS, z = mu u692 25 v701 := ⟨_, rfl⟩
                                      have hw := hw u701 eu701
                                      replace hI : mI D (mT cs) (fun q : Nat => s.heap.size ≤ q) s.heap s (VL h r q cs u701) H locs := by rw [eu701]; exact hI
                                      refine lv_icmp_eq (tgt := 1386) S.1 S.2.1 dL_law_704 (by decide) (fun c704 => ?_) (fun c704 => ?_)
                                      · have hw := hw.1 c704
                                        exact b1386 B18 hB18 x3 u701 hw H locs ls hI (lv_sub hl [0, 1, 2, 3] rfl)
                                      · have hw := hw.2 c704
                                        refine lv_iconst (v := 0) S.1 S.2.1 dL_law_707 (by decide) ?_
                                        rw [hQ] at hw
                                        first
                                          | exact absurd (show (0 : Int32) = 1 from hw.2) (by decide)
                                          | (refine va_forget (fun q hq => hI.2.2.1.2.2 q hq) ?_; exact lw_ret hx hb hr hlocks dL_law_708)
                                    · have hw := hw.2 c33_15
                                      by_cases c33_16 : y32 = 16
                                      · have hw := hw.1 c33_16
                                        refine lv_tableIn (tgt := 709) S.1 S.2.1 dL_law_33 (by rw [c33_16] <;> decide) (by rw [c33_16] <;> decide) (by rw [c33_16] <;> rfl) (by decide) ?_
                                        refine lv_aload_n S.1 S.2.1 dL_law_709 rfl (lv_at hl 1 rfl) ?_
                                        refine lv_aload_n S.1 S.2.1 dL_law_710 rfl (lv_at hl 0 rfl) ?_
                                        refine lv_iload_n S.1 S.2.1 dL_law_711 rfl (lv_at hl 3 rfl) ?_
                                        refine lv_iconst (v := 1) S.1 S.2.1 dL_law_712 (by decide) ?_
                                        refine lv_iadd S.1 S.2.1 dL_law_713 ?_
                                        refine lv_topi (fun y713 ey713 => ?_)
                                        have hw := hw y713 ey713
                                        refine va_sld S.1 S.2.1 hX hbl hbA hI.2.2.1 hw.1 dL_law_714 ?_
                                        refine lv_topi (fun y714 ey714 => ?_)
                                        have hw := hw.2 y714 ey714
                                        refine lv_aload_n S.1 S.2.1 dL_law_715 rfl (lv_at hl 0 rfl) ?_
                                        refine lv_iload_n S.1 S.2.1 dL_law_716 rfl (lv_at hl 3 rfl) ?_
                                        refine lv_iconst (v := 2) S.1 S.2.1 dL_law_717 (by decide) ?_
                                        refine lv_iadd S.1 S.2.1 dL_law_718 ?_
                                        refine lv_topi (fun y718 ey718 => ?_)
                                        have hw := hw y718 ey718
                                        refine va_sld S.1 S.2.1 hX hbl hbA hI.2.2.1 hw.1 dL_law_719 ?_
                                        refine lv_topi (fun y719 ey719 => ?_)
                                        have hw := hw.2 y719 ey719
                                        refine m_vi (cf := fun v => VL h r q cs (embT u v)) (As := [.int y714, .int y719]) (rest := []) S (VL_T h r q cs u) hI (by rw [embT_self]) (c_X11_left l D h r q cs y714 y719 u _ hw) (cwV 2 S.2.2.2.2 gT_X11_left rfl rfl rfl (by decide +kernel) ⟨Nat.le_of_ble_eq_true rfl, Nat.le_of_ble_eq_true rfl⟩) (VT_o0 h r q cs u) rfl rfl hl.1 rfl (Nat.le_of_ble_eq_true rfl) dL_law_720 ⟨Nat.le_of_ble_eq_true rfl, Nat.le_of_ble_eq_true rfl⟩ (fun y720 v720 H locs hw hI => ?_)
                                        obtain ⟨u720, eu720⟩ : ∃ z : CS, z = embT u v720 := ⟨_, rfl⟩
                                        have hw := hw u720 eu720
                                        replace hI : mI D (mT cs) (fun q : Nat => s.heap.size ≤ q) s.heap s (VL h r q cs u720) H locs := by rw [eu720]; exact hI
                                        refine lv_aload_n S.1 S.2.1 dL_law_723 rfl (lv_at hl 2 rfl) ?_
                                        refine lv_aload_n S.1 S.2.1 dL_law_724 rfl (lv_at hl 0 rfl) ?_
                                        refine lv_iload_n S.1 S.2.1 dL_law_725 rfl (lv_at hl 3 rfl) ?_
                                        refine lv_iconst (v := 1) S.1 S.2.1 dL_law_726 (by decide) ?_
                                        refine lv_iadd S.1 S.2.1 dL_law_727 ?_
                                        refine lv_topi (fun y727 ey727 => ?_)
                                        have hw := hw y727 ey727
                                        refine va_sld S.1 S.2.1 hX hbl hbA hI.2.2.1 hw.1 dL_law_728 ?_
                                        refine lv_topi (fun y728 ey728 => ?_)
                                        have hw := hw.2 y728 ey728
                                        refine lv_aload_n S.1 S.2.1 dL_law_729 rfl (lv_at hl 0 rfl) ?_
                                        refine lv_iload_n S.1 S.2.1 dL_law_730 rfl (lv_at hl 3 rfl) ?_
                                        refine lv_iconst (v := 2) S.1 S.2.1 dL_law_731 (by decide) ?_
                                        refine lv_iadd S.1 S.2.1 dL_law_732 ?_
                                        refine lv_topi (fun y732 ey732 => ?_)
                                        have hw := hw y732 ey732
                                        refine va_sld S.1 S.2.1 hX hbl hbA hI.2.2.1 hw.1 dL_law_733 ?_
                                        refine lv_topi (fun y733 ey733 => ?_)
                                        have hw := hw.2 y733 ey733
                                        refine m_vi (cf := fun v => VL h r q cs (mu u720 25 v)) (As := [.int y728, .int y733]) (rest := [.int y720]) S (VL_c25 h r q cs u720) hI (by rw [mu_self]) (c_X12_left l D (h 25) (r 25) cs y728 y733 (u720 25) _ hw) (cwV 2 S.2.2.2.2 gT_X12_left rfl rfl rfl (by decide +kernel) ⟨Nat.le_of_ble_eq_true rfl, Nat.le_of_ble_eq_true rfl⟩) (W12_at0 _ _ _ _) rfl rfl hl.1 rfl (Nat.le_of_ble_eq_true rfl) dL_law_734 ⟨Nat.le_of_ble_eq_true rfl, Nat.le_of_ble_eq_true rfl⟩ (fun y734 v734 H locs hw hI => ?_)
                                        obtain ⟨u734, eu734⟩ : ∃ z : CS, z = mu u720 25 v734 := ⟨_, rfl⟩
                                        have hw := hw u734 eu734
                                        replace hI : mI D (mT cs) (fun q : Nat => s.heap.size ≤ q) s.heap s (VL h r q cs u734) H locs := by rw [eu734]; exact hI
                                        refine lv_icmp_eq (tgt := 1386) S.1 S.2.1 dL_law_737 (by decide) (fun c737 => ?_) (fun c737 => ?_)
                                        · have hw := hw.1 c737
                                          exact b1386 B18 hB18 x3 u734 hw H locs ls hI (lv_sub hl [0, 1, 2, 3] rfl)
                                        · have hw := hw.2 c737
                                          refine lv_iconst (v := 0) S.1 S.2.1 dL_law_740 (by decide) ?_
                                          rw [hQ] at hw
                                          first
                                            | exact absurd (show (0 : Int32) = 1 from hw.2) (by decide)
                                            | (refine va_forget (fun q hq => hI.2.2.1.2.2 q hq) ?_; exact lw_ret hx hb hr hlocks dL_law_741)
                                      · have hw := hw.2 c33_16
                                        by_cases c33_17 : y32 = 17
                                        · have hw := hw.1 c33_17
                                          refine lv_tableIn (tgt := 742) S.1 S.2.1 dL_law_33 (by rw [c33_17] <;> decide) (by rw [c33_17] <;> decide) (by rw [c33_17] <;> rfl) (by decide) ?_
                                          refine lv_aload_n S.1 S.2.1 dL_law_742 rfl (lv_at hl 1 rfl) ?_
                                          refine lv_aload_n S.1 S.2.1 dL_law_743 rfl (lv_at hl 0 rfl) ?_
                                          refine lv_iload_n S.1 S.2.1 dL_law_744 rfl (lv_at hl 3 rfl) ?_
                                          refine lv_iconst (v := 1) S.1 S.2.1 dL_law_745 (by decide) ?_
                                          refine lv_iadd S.1 S.2.1 dL_law_746 ?_
                                          refine lv_topi (fun y746 ey746 => ?_)
                                          have hw := hw y746 ey746
                                          refine va_sld S.1 S.2.1 hX hbl hbA hI.2.2.1 hw.1 dL_law_747 ?_
                                          refine lv_topi (fun y747 ey747 => ?_)
                                          have hw := hw.2 y747 ey747
                                          refine m_vi (cf := fun v => VL h r q cs (embT u v)) (As := [.int y747]) (rest := []) S (VL_T h r q cs u) hI (by rw [embT_self]) (c_X11_wise l D h r q cs y747 u _ hw) (cwV 1 S.2.2.2.2 gT_X11_wise rfl rfl rfl (by decide +kernel) ⟨Nat.le_of_ble_eq_true rfl, Nat.le_of_ble_eq_true rfl⟩) (VT_o0 h r q cs u) rfl rfl hl.1 rfl (Nat.le_of_ble_eq_true rfl) dL_law_748 ⟨Nat.le_of_ble_eq_true rfl, Nat.le_of_ble_eq_true rfl⟩ (fun y748 v748 H locs hw hI => ?_)
                                          obtain ⟨u748, eu748⟩ : ∃ z : CS, z = embT u v748 := ⟨_, rfl⟩
                                          have hw := hw u748 eu748
                                          replace hI : mI D (mT cs) (fun q : Nat => s.heap.size ≤ q) s.heap s (VL h r q cs u748) H locs := by rw [eu748]; exact hI
                                          refine lv_aload_n S.1 S.2.1 dL_law_751 rfl (lv_at hl 2 rfl) ?_
                                          refine lv_aload_n S.1 S.2.1 dL_law_752 rfl (lv_at hl 0 rfl) ?_
                                          refine lv_iload_n S.1 S.2.1 dL_law_753 rfl (lv_at hl 3 rfl) ?_
                                          refine lv_iconst (v := 1) S.1 S.2.1 dL_law_754 (by decide) ?_
                                          refine lv_iadd S.1 S.2.1 dL_law_755 ?_
                                          refine lv_topi (fun y755 ey755 => ?_)
                                          have hw := hw y755 ey755
                                          refine va_sld S.1 S.2.1 hX hbl hbA hI.2.2.1 hw.1 dL_law_756 ?_
                                          refine lv_topi (fun y756 ey756 => ?_)
                                          have hw := hw.2 y756 ey756
                                          refine m_vi (cf := fun v => VL h r q cs (mu u748 25 v)) (As := [.int y756]) (rest := [.int y748]) S (VL_c25 h r q cs u748) hI (by rw [mu_self]) (c_X12_wise l D (h 25) (r 25) cs y756 (u748 25) _ hw) (cwV 1 S.2.2.2.2 gT_X12_wise rfl rfl rfl (by decide +kernel) ⟨Nat.le_of_ble_eq_true rfl, Nat.le_of_ble_eq_true rfl⟩) (W12_at0 _ _ _ _) rfl rfl hl.1 rfl (Nat.le_of_ble_eq_true rfl) dL_law_757 ⟨Nat.le_of_ble_eq_true rfl, Nat.le_of_ble_eq_true rfl⟩ (fun y757 v757 H locs hw hI => ?_)
                                          obtain ⟨u757, eu757⟩ : ∃ z : CS, z = mu u748 25 v757 := ⟨_, rfl⟩
                                          have hw := hw u757 eu757
                                          replace hI : mI D (mT cs) (fun q : Nat => s.heap.size ≤ q) s.heap s (VL h r q cs u757) H locs := by rw [eu757]; exact hI
                                          refine lv_icmp_eq (tgt := 1386) S.1 S.2.1 dL_law_760 (by decide) (fun c760 => ?_) (fun c760 => ?_)
                                          · have hw := hw.1 c760
                                            exact b1386 B18 hB18 x3 u757 hw H locs ls hI (lv_sub hl [0, 1, 2, 3] rfl)
                                          · have hw := hw.2 c760
                                            refine lv_iconst (v := 0) S.1 S.2.1 dL_law_763 (by decide) ?_
                                            rw [hQ] at hw
                                            first
                                              | exact absurd (show (0 : Int32) = 1 from hw.2) (by decide)
                                              | (refine va_forget (fun q hq => hI.2.2.1.2.2 q hq) ?_; exact lw_ret hx hb hr hlocks dL_law_764)
                                        · have hw := hw.2 c33_17
                                          by_cases c33_18 : y32 = 18
                                          · have hw := hw.1 c33_18
                                            refine lv_tableIn (tgt := 765) S.1 S.2.1 dL_law_33 (by rw [c33_18] <;> decide) (by rw [c33_18] <;> decide) (by rw [c33_18] <;> rfl) (by decide) ?_
                                            refine lv_aload_n S.1 S.2.1 dL_law_765 rfl (lv_at hl 1 rfl) ?_
                                            refine lv_aload_n S.1 S.2.1 dL_law_766 rfl (lv_at hl 0 rfl) ?_
                                            refine lv_iload_n S.1 S.2.1 dL_law_767 rfl (lv_at hl 3 rfl) ?_
                                            refine lv_iconst (v := 1) S.1 S.2.1 dL_law_768 (by decide) ?_
                                            refine lv_iadd S.1 S.2.1 dL_law_769 ?_
                                            refine lv_topi (fun y769 ey769 => ?_)
                                            have hw := hw y769 ey769
                                            refine va_sld S.1 S.2.1 hX hbl hbA hI.2.2.1 hw.1 dL_law_770 ?_
                                            refine lv_topi (fun y770 ey770 => ?_)
                                            have hw := hw.2 y770 ey770
                                            refine lv_aload_n S.1 S.2.1 dL_law_771 rfl (lv_at hl 0 rfl) ?_
                                            refine lv_iload_n S.1 S.2.1 dL_law_772 rfl (lv_at hl 3 rfl) ?_
                                            refine lv_iconst (v := 2) S.1 S.2.1 dL_law_773 (by decide) ?_
                                            refine lv_iadd S.1 S.2.1 dL_law_774 ?_
                                            refine lv_topi (fun y774 ey774 => ?_)
                                            have hw := hw y774 ey774
                                            refine va_sld S.1 S.2.1 hX hbl hbA hI.2.2.1 hw.1 dL_law_775 ?_
                                            refine lv_topi (fun y775 ey775 => ?_)
                                            have hw := hw.2 y775 ey775
                                            refine lv_aload_n S.1 S.2.1 dL_law_776 rfl (lv_at hl 0 rfl) ?_
                                            refine lv_iload_n S.1 S.2.1 dL_law_777 rfl (lv_at hl 3 rfl) ?_
                                            refine lv_iconst (v := 3) S.1 S.2.1 dL_law_778 (by decide) ?_
                                            refine lv_iadd S.1 S.2.1 dL_law_779 ?_
                                            refine lv_topi (fun y779 ey779 => ?_)
                                            have hw := hw y779 ey779
                                            refine va_sld S.1 S.2.1 hX hbl hbA hI.2.2.1 hw.1 dL_law_780 ?_
                                            refine lv_topi (fun y780 ey780 => ?_)
                                            have hw := hw.2 y780 ey780
                                            refine m_vi (cf := fun v => VL h r q cs (embT u v)) (As := [.int y770, .int y775, .int y780]) (rest := []) S (VL_T h r q cs u) hI (by rw [embT_self]) (c_X11_drawn l D h r q cs y770 y775 y780 u _ hw) (cwV 3 S.2.2.2.2 gT_X11_drawn rfl rfl rfl (by decide +kernel) ⟨Nat.le_of_ble_eq_true rfl, Nat.le_of_ble_eq_true rfl⟩) (VT_o0 h r q cs u) rfl rfl hl.1 rfl (Nat.le_of_ble_eq_true rfl) dL_law_781 ⟨Nat.le_of_ble_eq_true rfl, Nat.le_of_ble_eq_true rfl⟩ (fun y781 v781 H locs hw hI => ?_)
                                            obtain ⟨u781, eu781⟩ : ∃ z : CS, z = embT u v781 := ⟨_, rfl⟩
                                            have hw := hw u781 eu781
                                            replace hI : mI D (mT cs) (fun q : Nat => s.heap.size ≤ q) s.heap s (VL h r q cs u781) H locs := by rw [eu781]; exact hI
                                            refine lv_aload_n S.1 S.2.1 dL_law_784 rfl (lv_at hl 2 rfl) ?_
                                            refine lv_aload_n S.1 S.2.1 dL_law_785 rfl (lv_at hl 0 rfl) ?_
                                            refine lv_iload_n S.1 S.2.1 dL_law_786 rfl (lv_at hl 3 rfl) ?_
                                            refine lv_iconst (v := 1) S.1 S.2.1 dL_law_787 (by decide) ?_
                                            refine lv_iadd S.1 S.2.1 dL_law_788 ?_
                                            refine lv_topi (fun y788 ey788 => ?_)
                                            have hw := hw y788 ey788
                                            refine va_sld S.1 S.2.1 hX hbl hbA hI.2.2.1 hw.1 dL_law_789 ?_
                                            refine lv_topi (fun y789 ey789 => ?_)
                                            have hw := hw.2 y789 ey789
                                            refine lv_aload_n S.1 S.2.1 dL_law_790 rfl (lv_at hl 0 rfl) ?_
                                            refine lv_iload_n S.1 S.2.1 dL_law_791 rfl (lv_at hl 3 rfl) ?_
                                            refine lv_iconst (v := 2) S.1 S.2.1 dL_law_792 (by decide) ?_
                                            refine lv_iadd S.1 S.2.1 dL_law_793 ?_
                                            refine lv_topi (fun y793 ey793 => ?_)
                                            have hw := hw y793 ey793
                                            refine va_sld S.1 S.2.1 hX hbl hbA hI.2.2.1 hw.1 dL_law_794 ?_
                                            refine lv_topi (fun y794 ey794 => ?_)
                                            have hw := hw.2 y794 ey794
                                            refine lv_aload_n S.1 S.2.1 dL_law_795 rfl (lv_at hl 0 rfl) ?_
                                            refine lv_iload_n S.1 S.2.1 dL_law_796 rfl (lv_at hl 3 rfl) ?_
                                            refine lv_iconst (v := 3) S.1 S.2.1 dL_law_797 (by decide) ?_
                                            refine lv_iadd S.1 S.2.1 dL_law_798 ?_
                                            refine lv_topi (fun y798 ey798 => ?_)
                                            have hw := hw y798 ey798
                                            refine va_sld S.1 S.2.1 hX hbl hbA hI.2.2.1 hw.1 dL_law_799 ?_
                                            refine lv_topi (fun y799 ey799 => ?_)
                                            have hw := hw.2 y799 ey799
                                            refine m_vi (cf := fun v => VL h r q cs (mu u781 25 v)) (As := [.int y789, .int y794, .int y799]) (rest := [.int y781]) S (VL_c25 h r q cs u781) hI (by rw [mu_self]) (c_X12_drawn l D (h 25) (r 25) cs y789 y794 y799 (u781 25) _ hw) (cwV 3 S.2.2.2.2 gT_X12_drawn rfl rfl rfl (by decide +kernel) ⟨Nat.le_of_ble_eq_true rfl, Nat.le_of_ble_eq_true rfl⟩) (W12_at0 _ _ _ _) rfl rfl hl.1 rfl (Nat.le_of_ble_eq_true rfl) dL_law_800 ⟨Nat.le_of_ble_eq_true rfl, Nat.le_of_ble_eq_true rfl⟩ (fun y800 v800 H locs hw hI => ?_)
                                            obtain ⟨u800, eu800⟩ : ∃ z : CS, z = mu u781 25 v800 := ⟨_, rfl⟩
                                            have hw := hw u800 eu800
                                            replace hI : mI D (mT cs) (fun q : Nat => s.heap.size ≤ q) s.heap s (VL h r q cs u800) H locs := by rw [eu800]; exact hI
                                            refine lv_icmp_eq (tgt := 1386) S.1 S.2.1 dL_law_803 (by decide) (fun c803 => ?_) (fun c803 => ?_)
                                            · have hw := hw.1 c803
                                              exact b1386 B18 hB18 x3 u800 hw H locs ls hI (lv_sub hl [0, 1, 2, 3] rfl)
                                            · have hw := hw.2 c803
                                              refine lv_iconst (v := 0) S.1 S.2.1 dL_law_806 (by decide) ?_
                                              rw [hQ] at hw
                                              first
                                                | exact absurd (show (0 : Int32) = 1 from hw.2) (by decide)
                                                | (refine va_forget (fun q hq => hI.2.2.1.2.2 q hq) ?_; exact lw_ret hx hb hr hlocks dL_law_807)
                                          · have hw := hw.2 c33_18
                                            by_cases c33_19 : y32 = 19
                                            · have hw := hw.1 c33_19
                                              refine lv_tableIn (tgt := 808) S.1 S.2.1 dL_law_33 (by rw [c33_19] <;> decide) (by rw [c33_19] <;> decide) (by rw [c33_19] <;> rfl) (by decide) ?_
                                              refine lv_aload_n S.1 S.2.1 dL_law_808 rfl (lv_at hl 1 rfl) ?_
                                              refine lv_aload_n S.1 S.2.1 dL_law_809 rfl (lv_at hl 0 rfl) ?_
                                              refine lv_iload_n S.1 S.2.1 dL_law_810 rfl (lv_at hl 3 rfl) ?_
                                              refine lv_iconst (v := 1) S.1 S.2.1 dL_law_811 (by decide) ?_
                                              refine lv_iadd S.1 S.2.1 dL_law_812 ?_
                                              refine lv_topi (fun y812 ey812 => ?_)
                                              have hw := hw y812 ey812
                                              refine va_sld S.1 S.2.1 hX hbl hbA hI.2.2.1 hw.1 dL_law_813 ?_
                                              refine lv_topi (fun y813 ey813 => ?_)
                                              have hw := hw.2 y813 ey813
                                              refine m_vi (cf := fun v => VL h r q cs (embT u v)) (As := [.int y813]) (rest := []) S (VL_T h r q cs u) hI (by rw [embT_self]) (c_X11_hide l D h r q cs y813 u _ hw) (cwV 1 S.2.2.2.2 gT_X11_hide rfl rfl rfl (by decide +kernel) ⟨Nat.le_of_ble_eq_true rfl, Nat.le_of_ble_eq_true rfl⟩) (VT_o0 h r q cs u) rfl rfl hl.1 rfl (Nat.le_of_ble_eq_true rfl) dL_law_814 ⟨Nat.le_of_ble_eq_true rfl, Nat.le_of_ble_eq_true rfl⟩ (fun y814 v814 H locs hw hI => ?_)
                                              obtain ⟨u814, eu814⟩ : ∃ z : CS, z = embT u v814 := ⟨_, rfl⟩
                                              have hw := hw u814 eu814
                                              replace hI : mI D (mT cs) (fun q : Nat => s.heap.size ≤ q) s.heap s (VL h r q cs u814) H locs := by rw [eu814]; exact hI
                                              refine lv_aload_n S.1 S.2.1 dL_law_817 rfl (lv_at hl 2 rfl) ?_
                                              refine lv_aload_n S.1 S.2.1 dL_law_818 rfl (lv_at hl 0 rfl) ?_
                                              refine lv_iload_n S.1 S.2.1 dL_law_819 rfl (lv_at hl 3 rfl) ?_
                                              refine lv_iconst (v := 1) S.1 S.2.1 dL_law_820 (by decide) ?_
                                              refine lv_iadd S.1 S.2.1 dL_law_821 ?_
                                              refine lv_topi (fun y821 ey821 => ?_)
                                              have hw := hw y821 ey821
                                              refine va_sld S.1 S.2.1 hX hbl hbA hI.2.2.1 hw.1 dL_law_822 ?_
                                              refine lv_topi (fun y822 ey822 => ?_)
                                              have hw := hw.2 y822 ey822
                                              refine m_vi (cf := fun v => VL h r q cs (mu u814 25 v)) (As := [.int y822]) (rest := [.int y814]) S (VL_c25 h r q cs u814) hI (by rw [mu_self]) (c_X12_hide l D (h 25) (r 25) cs y822 (u814 25) _ hw) (cwV 1 S.2.2.2.2 gT_X12_hide rfl rfl rfl (by decide +kernel) ⟨Nat.le_of_ble_eq_true rfl, Nat.le_of_ble_eq_true rfl⟩) (W12_at0 _ _ _ _) rfl rfl hl.1 rfl (Nat.le_of_ble_eq_true rfl) dL_law_823 ⟨Nat.le_of_ble_eq_true rfl, Nat.le_of_ble_eq_true rfl⟩ (fun y823 v823 H locs hw hI => ?_)
                                              obtain ⟨u823, eu823⟩ : ∃ z : CS, z = mu u814 25 v823 := ⟨_, rfl⟩
                                              have hw := hw u823 eu823
                                              replace hI : mI D (mT cs) (fun q : Nat => s.heap.size ≤ q) s.heap s (VL h r q cs u823) H locs := by rw [eu823]; exact hI
                                              refine lv_icmp_eq (tgt := 1386) S.1 S.2.1 dL_law_826 (by decide) (fun c826 => ?_) (fun c826 => ?_)
                                              · have hw := hw.1 c826
                                                exact b1386 B18 hB18 x3 u823 hw H locs ls hI (lv_sub hl [0, 1, 2, 3] rfl)
                                              · have hw := hw.2 c826
                                                refine lv_iconst (v := 0) S.1 S.2.1 dL_law_829 (by decide) ?_
                                                rw [hQ] at hw
                                                first
                                                  | exact absurd (show (0 : Int32) = 1 from hw.2) (by decide)
                                                  | (refine va_forget (fun q hq => hI.2.2.1.2.2 q hq) ?_; exact lw_ret hx hb hr hlocks dL_law_830)
                                            · have hw := hw.2 c33_19
                                              by_cases c33_20 : y32 = 20
                                              · have hw := hw.1 c33_20
                                                refine lv_tableIn (tgt := 831) S.1 S.2.1 dL_law_33 (by rw [c33_20] <;> decide) (by rw [c33_20] <;> decide) (by rw [c33_20] <;> rfl) (by decide) ?_
                                                refine lv_aload_n S.1 S.2.1 dL_law_831 rfl (lv_at hl 1 rfl) ?_
                                                refine lv_aload_n S.1 S.2.1 dL_law_832 rfl (lv_at hl 0 rfl) ?_
                                                refine lv_iload_n S.1 S.2.1 dL_law_833 rfl (lv_at hl 3 rfl) ?_
                                                refine lv_iconst (v := 1) S.1 S.2.1 dL_law_834 (by decide) ?_
                                                refine lv_iadd S.1 S.2.1 dL_law_835 ?_
                                                refine lv_topi (fun y835 ey835 => ?_)
                                                have hw := hw y835 ey835
                                                refine va_sld S.1 S.2.1 hX hbl hbA hI.2.2.1 hw.1 dL_law_836 ?_
                                                refine lv_topi (fun y836 ey836 => ?_)
                                                have hw := hw.2 y836 ey836
                                                refine m_vi (cf := fun v => VL h r q cs (embT u v)) (As := [.int y836]) (rest := []) S (VL_T h r q cs u) hI (by rw [embT_self]) (c_X11_drop l D h r q cs y836 u _ hw) (cwV 1 S.2.2.2.2 gT_X11_drop rfl rfl rfl (by decide +kernel) ⟨Nat.le_of_ble_eq_true rfl, Nat.le_of_ble_eq_true rfl⟩) (VT_o0 h r q cs u) rfl rfl hl.1 rfl (Nat.le_of_ble_eq_true rfl) dL_law_837 ⟨Nat.le_of_ble_eq_true rfl, Nat.le_of_ble_eq_true rfl⟩ (fun y837 v837 H locs hw hI => ?_)
                                                obtain ⟨u837, eu837⟩ : ∃ z : CS, z = embT u v837 := ⟨_, rfl⟩
                                                have hw := hw u837 eu837
                                                replace hI : mI D (mT cs) (fun q : Nat => s.heap.size ≤ q) s.heap s (VL h r q cs u837) H locs := by rw [eu837]; exact hI
                                                refine lv_aload_n S.1 S.2.1 dL_law_840 rfl (lv_at hl 2 rfl) ?_
                                                refine lv_aload_n S.1 S.2.1 dL_law_841 rfl (lv_at hl 0 rfl) ?_
                                                refine lv_iload_n S.1 S.2.1 dL_law_842 rfl (lv_at hl 3 rfl) ?_
                                                refine lv_iconst (v := 1) S.1 S.2.1 dL_law_843 (by decide) ?_
                                                refine lv_iadd S.1 S.2.1 dL_law_844 ?_
                                                refine lv_topi (fun y844 ey844 => ?_)
                                                have hw := hw y844 ey844
                                                refine va_sld S.1 S.2.1 hX hbl hbA hI.2.2.1 hw.1 dL_law_845 ?_
                                                refine lv_topi (fun y845 ey845 => ?_)
                                                have hw := hw.2 y845 ey845
                                                refine m_vi (cf := fun v => VL h r q cs (mu u837 25 v)) (As := [.int y845]) (rest := [.int y837]) S (VL_c25 h r q cs u837) hI (by rw [mu_self]) (c_X12_drop l D (h 25) (r 25) cs y845 (u837 25) _ hw) (cwV 1 S.2.2.2.2 gT_X12_drop rfl rfl rfl (by decide +kernel) ⟨Nat.le_of_ble_eq_true rfl, Nat.le_of_ble_eq_true rfl⟩) (W12_at0 _ _ _ _) rfl rfl hl.1 rfl (Nat.le_of_ble_eq_true rfl) dL_law_846 ⟨Nat.le_of_ble_eq_true rfl, Nat.le_of_ble_eq_true rfl⟩ (fun y846 v846 H locs hw hI => ?_)
                                                obtain ⟨u846, eu846⟩ : ∃ z : CS, z = mu u837 25 v846 := ⟨_, rfl⟩
                                                have hw := hw u846 eu846
                                                replace hI : mI D (mT cs) (fun q : Nat => s.heap.size ≤ q) s.heap s (VL h r q cs u846) H locs := by rw [eu846]; exact hI
                                                refine lv_icmp_eq (tgt := 1386) S.1 S.2.1 dL_law_849 (by decide) (fun c849 => ?_) (fun c849 => ?_)
                                                · have hw := hw.1 c849
                                                  exact b1386 B18 hB18 x3 u846 hw H locs ls hI (lv_sub hl [0, 1, 2, 3] rfl)
                                                · have hw := hw.2 c849
                                                  refine lv_iconst (v := 0) S.1 S.2.1 dL_law_852 (by decide) ?_
                                                  rw [hQ] at hw
                                                  first
                                                    | exact absurd (show (0 : Int32) = 1 from hw.2) (by decide)
                                                    | (refine va_forget (fun q hq => hI.2.2.1.2.2 q hq) ?_; exact lw_ret hx hb hr hlocks dL_law_853)
                                              · have hw := hw.2 c33_20
                                                by_cases c33_21 : y32 = 21
                                                · have hw := hw.1 c33_21
                                                  refine lv_tableIn (tgt := 854) S.1 S.2.1 dL_law_33 (by rw [c33_21] <;> decide) (by rw [c33_21] <;> decide) (by rw [c33_21] <;> rfl) (by decide) ?_
                                                  refine lv_aload_n S.1 S.2.1 dL_law_854 rfl (lv_at hl 1 rfl) ?_
                                                  refine lv_aload_n S.1 S.2.1 dL_law_855 rfl (lv_at hl 0 rfl) ?_
                                                  refine lv_iload_n S.1 S.2.1 dL_law_856 rfl (lv_at hl 3 rfl) ?_
                                                  refine lv_iconst (v := 1) S.1 S.2.1 dL_law_857 (by decide) ?_
                                                  refine lv_iadd S.1 S.2.1 dL_law_858 ?_
                                                  refine lv_topi (fun y858 ey858 => ?_)
                                                  have hw := hw y858 ey858
                                                  refine va_sld S.1 S.2.1 hX hbl hbA hI.2.2.1 hw.1 dL_law_859 ?_
                                                  refine lv_topi (fun y859 ey859 => ?_)
                                                  have hw := hw.2 y859 ey859
                                                  refine lv_aload_n S.1 S.2.1 dL_law_860 rfl (lv_at hl 0 rfl) ?_
                                                  refine lv_iload_n S.1 S.2.1 dL_law_861 rfl (lv_at hl 3 rfl) ?_
                                                  refine lv_iconst (v := 2) S.1 S.2.1 dL_law_862 (by decide) ?_
                                                  refine lv_iadd S.1 S.2.1 dL_law_863 ?_
                                                  refine lv_topi (fun y863 ey863 => ?_)
                                                  have hw := hw y863 ey863
                                                  refine va_sld S.1 S.2.1 hX hbl hbA hI.2.2.1 hw.1 dL_law_864 ?_
                                                  refine lv_topi (fun y864 ey864 => ?_)
                                                  have hw := hw.2 y864 ey864
                                                  refine lv_aload_n S.1 S.2.1 dL_law_865 rfl (lv_at hl 0 rfl) ?_
                                                  refine lv_iload_n S.1 S.2.1 dL_law_866 rfl (lv_at hl 3 rfl) ?_
                                                  refine lv_iconst (v := 3) S.1 S.2.1 dL_law_867 (by decide) ?_
                                                  refine lv_iadd S.1 S.2.1 dL_law_868 ?_
                                                  refine lv_topi (fun y868 ey868 => ?_)
                                                  have hw := hw y868 ey868
                                                  refine va_sld S.1 S.2.1 hX hbl hbA hI.2.2.1 hw.1 dL_law_869 ?_
                                                  refine lv_topi (fun y869 ey869 => ?_)
                                                  have hw := hw.2 y869 ey869
                                                  refine m_vi (cf := fun v => VL h r q cs (embT u v)) (As := [.int y859, .int y864, .int y869]) (rest := []) S (VL_T h r q cs u) hI (by rw [embT_self]) (c_X11_drops l D h r q cs y859 y864 y869 u _ hw) (cwV 3 S.2.2.2.2 gT_X11_drops rfl rfl rfl (by decide +kernel) ⟨Nat.le_of_ble_eq_true rfl, Nat.le_of_ble_eq_true rfl⟩) (VT_o0 h r q cs u) rfl rfl hl.1 rfl (Nat.le_of_ble_eq_true rfl) dL_law_870 ⟨Nat.le_of_ble_eq_true rfl, Nat.le_of_ble_eq_true rfl⟩ (fun y870 v870 H locs hw hI => ?_)
                                                  obtain ⟨u870, eu870⟩ : ∃ z : CS, z = embT u v870 := ⟨_, rfl⟩
                                                  have hw := hw u870 eu870
                                                  replace hI : mI D (mT cs) (fun q : Nat => s.heap.size ≤ q) s.heap s (VL h r q cs u870) H locs := by rw [eu870]; exact hI
                                                  refine lv_aload_n S.1 S.2.1 dL_law_873 rfl (lv_at hl 2 rfl) ?_
                                                  refine lv_aload_n S.1 S.2.1 dL_law_874 rfl (lv_at hl 0 rfl) ?_
                                                  refine lv_iload_n S.1 S.2.1 dL_law_875 rfl (lv_at hl 3 rfl) ?_
                                                  refine lv_iconst (v := 1) S.1 S.2.1 dL_law_876 (by decide) ?_
                                                  refine lv_iadd S.1 S.2.1 dL_law_877 ?_
                                                  refine lv_topi (fun y877 ey877 => ?_)
                                                  have hw := hw y877 ey877
                                                  refine va_sld S.1 S.2.1 hX hbl hbA hI.2.2.1 hw.1 dL_law_878 ?_
                                                  refine lv_topi (fun y878 ey878 => ?_)
                                                  have hw := hw.2 y878 ey878
                                                  refine lv_aload_n S.1 S.2.1 dL_law_879 rfl (lv_at hl 0 rfl) ?_
                                                  refine lv_iload_n S.1 S.2.1 dL_law_880 rfl (lv_at hl 3 rfl) ?_
                                                  refine lv_iconst (v := 2) S.1 S.2.1 dL_law_881 (by decide) ?_
                                                  refine lv_iadd S.1 S.2.1 dL_law_882 ?_
                                                  refine lv_topi (fun y882 ey882 => ?_)
                                                  have hw := hw y882 ey882
                                                  refine va_sld S.1 S.2.1 hX hbl hbA hI.2.2.1 hw.1 dL_law_883 ?_
                                                  refine lv_topi (fun y883 ey883 => ?_)
                                                  have hw := hw.2 y883 ey883
                                                  refine lv_aload_n S.1 S.2.1 dL_law_884 rfl (lv_at hl 0 rfl) ?_
                                                  refine lv_iload_n S.1 S.2.1 dL_law_885 rfl (lv_at hl 3 rfl) ?_
                                                  refine lv_iconst (v := 3) S.1 S.2.1 dL_law_886 (by decide) ?_
                                                  refine lv_iadd S.1 S.2.1 dL_law_887 ?_
                                                  refine lv_topi (fun y887 ey887 => ?_)
                                                  have hw := hw y887 ey887
                                                  refine va_sld S.1 S.2.1 hX hbl hbA hI.2.2.1 hw.1 dL_law_888 ?_
                                                  refine lv_topi (fun y888 ey888 => ?_)
                                                  have hw := hw.2 y888 ey888
                                                  refine m_vi (cf := fun v => VL h r q cs (mu u870 25 v)) (As := [.int y878, .int y883, .int y888]) (rest := [.int y870]) S (VL_c25 h r q cs u870) hI (by rw [mu_self]) (c_X12_drops l D (h 25) (r 25) cs y878 y883 y888 (u870 25) _ hw) (cwV 3 S.2.2.2.2 gT_X12_drops rfl rfl rfl (by decide +kernel) ⟨Nat.le_of_ble_eq_true rfl, Nat.le_of_ble_eq_true rfl⟩) (W12_at0 _ _ _ _) rfl rfl hl.1 rfl (Nat.le_of_ble_eq_true rfl) dL_law_889 ⟨Nat.le_of_ble_eq_true rfl, Nat.le_of_ble_eq_true rfl⟩ (fun y889 v889 H locs hw hI => ?_)
                                                  obtain ⟨u889, eu889⟩ : ∃ z : CS, z = mu u870 25 v889 := ⟨_, rfl⟩
                                                  have hw := hw u889 eu889
                                                  replace hI : mI D (mT cs) (fun q : Nat => s.heap.size ≤ q) s.heap s (VL h r q cs u889) H locs := by rw [eu889]; exact hI
                                                  refine lv_icmp_eq (tgt := 1386) S.1 S.2.1 dL_law_892 (by decide) (fun c892 => ?_) (fun c892 => ?_)
                                                  · have hw := hw.1 c892
                                                    exact b1386 B18 hB18 x3 u889 hw H locs ls hI (lv_sub hl [0, 1, 2, 3] rfl)
                                                  · have hw := hw.2 c892
                                                    refine lv_iconst (v := 0) S.1 S.2.1 dL_law_895 (by decide) ?_
                                                    rw [hQ] at hw
                                                    first
                                                      | exact absurd (show (0 : Int32) = 1 from hw.2) (by decide)
                                                      | (refine va_forget (fun q hq => hI.2.2.1.2.2 q hq) ?_; exact lw_ret hx hb hr hlocks dL_law_896)
                                                · have hw := hw.2 c33_21
                                                  by_cases c33_22 : y32 = 22
                                                  · have hw := hw.1 c33_22
                                                    refine lv_tableIn (tgt := 897) S.1 S.2.1 dL_law_33 (by rw [c33_22] <;> decide) (by rw [c33_22] <;> decide) (by rw [c33_22] <;> rfl) (by decide) ?_
                                                    refine lv_aload_n S.1 S.2.1 dL_law_897 rfl (lv_at hl 1 rfl) ?_
                                                    refine lv_aload_n S.1 S.2.1 dL_law_898 rfl (lv_at hl 0 rfl) ?_
                                                    refine lv_iload_n S.1 S.2.1 dL_law_899 rfl (lv_at hl 3 rfl) ?_
                                                    refine lv_iconst (v := 1) S.1 S.2.1 dL_law_900 (by decide) ?_
                                                    refine lv_iadd S.1 S.2.1 dL_law_901 ?_
                                                    refine lv_topi (fun y901 ey901 => ?_)
                                                    have hw := hw y901 ey901
                                                    refine va_sld S.1 S.2.1 hX hbl hbA hI.2.2.1 hw.1 dL_law_902 ?_
                                                    refine lv_topi (fun y902 ey902 => ?_)
                                                    have hw := hw.2 y902 ey902
                                                    refine m_vi (cf := fun v => VL h r q cs (embT u v)) (As := [.int y902]) (rest := []) S (VL_T h r q cs u) hI (by rw [embT_self]) (c_X11_guess l D h r q cs y902 u _ hw) (cwV 1 S.2.2.2.2 gT_X11_guess rfl rfl rfl (by decide +kernel) ⟨Nat.le_of_ble_eq_true rfl, Nat.le_of_ble_eq_true rfl⟩) (VT_o0 h r q cs u) rfl rfl hl.1 rfl (Nat.le_of_ble_eq_true rfl) dL_law_903 ⟨Nat.le_of_ble_eq_true rfl, Nat.le_of_ble_eq_true rfl⟩ (fun y903 v903 H locs hw hI => ?_)
                                                    obtain ⟨u903, eu903⟩ : ∃ z : CS, z = embT u v903 := ⟨_, rfl⟩
                                                    have hw := hw u903 eu903
                                                    replace hI : mI D (mT cs) (fun q : Nat => s.heap.size ≤ q) s.heap s (VL h r q cs u903) H locs := by rw [eu903]; exact hI
                                                    refine lv_aload_n S.1 S.2.1 dL_law_906 rfl (lv_at hl 2 rfl) ?_
                                                    refine lv_aload_n S.1 S.2.1 dL_law_907 rfl (lv_at hl 0 rfl) ?_
                                                    refine lv_iload_n S.1 S.2.1 dL_law_908 rfl (lv_at hl 3 rfl) ?_
                                                    refine lv_iconst (v := 1) S.1 S.2.1 dL_law_909 (by decide) ?_
                                                    refine lv_iadd S.1 S.2.1 dL_law_910 ?_
                                                    refine lv_topi (fun y910 ey910 => ?_)
                                                    have hw := hw y910 ey910
                                                    refine va_sld S.1 S.2.1 hX hbl hbA hI.2.2.1 hw.1 dL_law_911 ?_
                                                    refine lv_topi (fun y911 ey911 => ?_)
                                                    have hw := hw.2 y911 ey911
                                                    refine m_vi (cf := fun v => VL h r q cs (mu u903 25 v)) (As := [.int y911]) (rest := [.int y903]) S (VL_c25 h r q cs u903) hI (by rw [mu_self]) (c_X12_guess l D (h 25) (r 25) cs y911 (u903 25) _ hw) (cwV 1 S.2.2.2.2 gT_X12_guess rfl rfl rfl (by decide +kernel) ⟨Nat.le_of_ble_eq_true rfl, Nat.le_of_ble_eq_true rfl⟩) (W12_at0 _ _ _ _) rfl rfl hl.1 rfl (Nat.le_of_ble_eq_true rfl) dL_law_912 ⟨Nat.le_of_ble_eq_true rfl, Nat.le_of_ble_eq_true rfl⟩ (fun y912 v912 H locs hw hI => ?_)
                                                    obtain ⟨u912, eu912⟩ : ∃ z : CS, z = mu u903 25 v912 := ⟨_, rfl⟩
                                                    have hw := hw u912 eu912
                                                    replace hI : mI D (mT cs) (fun q : Nat => s.heap.size ≤ q) s.heap s (VL h r q cs u912) H locs := by rw [eu912]; exact hI
                                                    refine lv_icmp_eq (tgt := 1386) S.1 S.2.1 dL_law_915 (by decide) (fun c915 => ?_) (fun c915 => ?_)
                                                    · have hw := hw.1 c915
                                                      exact b1386 B18 hB18 x3 u912 hw H locs ls hI (lv_sub hl [0, 1, 2, 3] rfl)
                                                    · have hw := hw.2 c915
                                                      refine lv_iconst (v := 0) S.1 S.2.1 dL_law_918 (by decide) ?_
                                                      rw [hQ] at hw
                                                      first
                                                        | exact absurd (show (0 : Int32) = 1 from hw.2) (by decide)
                                                        | (refine va_forget (fun q hq => hI.2.2.1.2.2 q hq) ?_; exact lw_ret hx hb hr hlocks dL_law_919)
                                                  · have hw := hw.2 c33_22
                                                    by_cases c33_23 : y32 = 23
                                                    · have hw := hw.1 c33_23
                                                      refine lv_tableIn (tgt := 920) S.1 S.2.1 dL_law_33 (by rw [c33_23] <;> decide) (by rw [c33_23] <;> decide) (by rw [c33_23] <;> rfl) (by decide) ?_
                                                      refine lv_aload_n S.1 S.2.1 dL_law_920 rfl (lv_at hl 1 rfl) ?_
                                                      refine lv_aload_n S.1 S.2.1 dL_law_921 rfl (lv_at hl 0 rfl) ?_
                                                      refine lv_iload_n S.1 S.2.1 dL_law_922 rfl (lv_at hl 3 rfl) ?_
                                                      refine lv_iconst (v := 1) S.1 S.2.1 dL_law_923 (by decide) ?_
                                                      refine lv_iadd S.1 S.2.1 dL_law_924 ?_
                                                      refine lv_topi (fun y924 ey924 => ?_)
                                                      have hw := hw y924 ey924
                                                      refine va_sld S.1 S.2.1 hX hbl hbA hI.2.2.1 hw.1 dL_law_925 ?_
                                                      refine lv_topi (fun y925 ey925 => ?_)
                                                      have hw := hw.2 y925 ey925
                                                      refine m_vi (cf := fun v => VL h r q cs (embT u v)) (As := [.int y925]) (rest := []) S (VL_T h r q cs u) hI (by rw [embT_self]) (c_X11_led l D h r q cs y925 u _ hw) (cwV 1 S.2.2.2.2 gT_X11_led rfl rfl rfl (by decide +kernel) ⟨Nat.le_of_ble_eq_true rfl, Nat.le_of_ble_eq_true rfl⟩) (VT_o0 h r q cs u) rfl rfl hl.1 rfl (Nat.le_of_ble_eq_true rfl) dL_law_926 ⟨Nat.le_of_ble_eq_true rfl, Nat.le_of_ble_eq_true rfl⟩ (fun y926 v926 H locs hw hI => ?_)
                                                      obtain ⟨u926, eu926⟩ : ∃ z : CS, z = embT u v926 := ⟨_, rfl⟩
                                                      have hw := hw u926 eu926
                                                      replace hI : mI D (mT cs) (fun q : Nat => s.heap.size ≤ q) s.heap s (VL h r q cs u926) H locs := by rw [eu926]; exact hI
                                                      refine lv_aload_n S.1 S.2.1 dL_law_929 rfl (lv_at hl 2 rfl) ?_
                                                      refine lv_aload_n S.1 S.2.1 dL_law_930 rfl (lv_at hl 0 rfl) ?_
                                                      refine lv_iload_n S.1 S.2.1 dL_law_931 rfl (lv_at hl 3 rfl) ?_
                                                      refine lv_iconst (v := 1) S.1 S.2.1 dL_law_932 (by decide) ?_
                                                      refine lv_iadd S.1 S.2.1 dL_law_933 ?_
                                                      refine lv_topi (fun y933 ey933 => ?_)
                                                      have hw := hw y933 ey933
                                                      refine va_sld S.1 S.2.1 hX hbl hbA hI.2.2.1 hw.1 dL_law_934 ?_
                                                      refine lv_topi (fun y934 ey934 => ?_)
                                                      have hw := hw.2 y934 ey934
                                                      refine m_vi (cf := fun v => VL h r q cs (mu u926 25 v)) (As := [.int y934]) (rest := [.int y926]) S (VL_c25 h r q cs u926) hI (by rw [mu_self]) (c_X12_led l D (h 25) (r 25) cs y934 (u926 25) _ hw) (cwV 1 S.2.2.2.2 gT_X12_led rfl rfl rfl (by decide +kernel) ⟨Nat.le_of_ble_eq_true rfl, Nat.le_of_ble_eq_true rfl⟩) (W12_at0 _ _ _ _) rfl rfl hl.1 rfl (Nat.le_of_ble_eq_true rfl) dL_law_935 ⟨Nat.le_of_ble_eq_true rfl, Nat.le_of_ble_eq_true rfl⟩ (fun y935 v935 H locs hw hI => ?_)
                                                      obtain ⟨u935, eu935⟩ : ∃ z : CS, z = mu u926 25 v935 := ⟨_, rfl⟩
                                                      have hw := hw u935 eu935
                                                      replace hI : mI D (mT cs) (fun q : Nat => s.heap.size ≤ q) s.heap s (VL h r q cs u935) H locs := by rw [eu935]; exact hI
                                                      refine lv_icmp_eq (tgt := 1386) S.1 S.2.1 dL_law_938 (by decide) (fun c938 => ?_) (fun c938 => ?_)
                                                      · have hw := hw.1 c938
                                                        exact b1386 B18 hB18 x3 u935 hw H locs ls hI (lv_sub hl [0, 1, 2, 3] rfl)
                                                      · have hw := hw.2 c938
                                                        refine lv_iconst (v := 0) S.1 S.2.1 dL_law_941 (by decide) ?_
                                                        rw [hQ] at hw
                                                        first
                                                          | exact absurd (show (0 : Int32) = 1 from hw.2) (by decide)
                                                          | (refine va_forget (fun q hq => hI.2.2.1.2.2 q hq) ?_; exact lw_ret hx hb hr hlocks dL_law_942)
                                                    · have hw := hw.2 c33_23
                                                      by_cases c33_24 : y32 = 24
                                                      · have hw := hw.1 c33_24
                                                        refine lv_tableIn (tgt := 943) S.1 S.2.1 dL_law_33 (by rw [c33_24] <;> decide) (by rw [c33_24] <;> decide) (by rw [c33_24] <;> rfl) (by decide) ?_
                                                        refine lv_aload_n S.1 S.2.1 dL_law_943 rfl (lv_at hl 1 rfl) ?_
                                                        refine m_vi (cf := fun v => VL h r q cs (embT u v)) (As := []) (rest := []) S (VL_T h r q cs u) hI (by rw [embT_self]) (c_X11_image l D h r q cs u _ hw) (cwV 0 S.2.2.2.2 gT_X11_image rfl rfl rfl (by decide +kernel) ⟨Nat.le_of_ble_eq_true rfl, Nat.le_of_ble_eq_true rfl⟩) (VT_o0 h r q cs u) rfl rfl hl.1 rfl (Nat.le_of_ble_eq_true rfl) dL_law_944 ⟨Nat.le_of_ble_eq_true rfl, Nat.le_of_ble_eq_true rfl⟩ (fun y944 v944 H locs hw hI => ?_)
                                                        obtain ⟨u944, eu944⟩ : ∃ z : CS, z = embT u v944 := ⟨_, rfl⟩
                                                        have hw := hw u944 eu944
                                                        replace hI : mI D (mT cs) (fun q : Nat => s.heap.size ≤ q) s.heap s (VL h r q cs u944) H locs := by rw [eu944]; exact hI
                                                        refine lv_aload_n S.1 S.2.1 dL_law_947 rfl (lv_at hl 2 rfl) ?_
                                                        refine m_vi (cf := fun v => VL h r q cs (mu u944 25 v)) (As := []) (rest := [.int y944]) S (VL_c25 h r q cs u944) hI (by rw [mu_self]) (c_X12_image l D (h 25) (r 25) cs (u944 25) _ hw) (cwV 0 S.2.2.2.2 gT_X12_image rfl rfl rfl (by decide +kernel) ⟨Nat.le_of_ble_eq_true rfl, Nat.le_of_ble_eq_true rfl⟩) (W12_at0 _ _ _ _) rfl rfl hl.1 rfl (Nat.le_of_ble_eq_true rfl) dL_law_948 ⟨Nat.le_of_ble_eq_true rfl, Nat.le_of_ble_eq_true rfl⟩ (fun y948 v948 H locs hw hI => ?_)
                                                        obtain ⟨u948, eu948⟩ : ∃ z : CS, z = mu u944 25 v948 := ⟨_, rfl⟩
                                                        have hw := hw u948 eu948
                                                        replace hI : mI D (mT cs) (fun q : Nat => s.heap.size ≤ q) s.heap s (VL h r q cs u948) H locs := by rw [eu948]; exact hI
                                                        refine lv_icmp_eq (tgt := 1386) S.1 S.2.1 dL_law_951 (by decide) (fun c951 => ?_) (fun c951 => ?_)
                                                        · have hw := hw.1 c951
                                                          exact b1386 B18 hB18 x3 u948 hw H locs ls hI (lv_sub hl [0, 1, 2, 3] rfl)
                                                        · have hw := hw.2 c951
                                                          refine lv_iconst (v := 0) S.1 S.2.1 dL_law_954 (by decide) ?_
                                                          rw [hQ] at hw
                                                          first
                                                            | exact absurd (show (0 : Int32) = 1 from hw.2) (by decide)
                                                            | (refine va_forget (fun q hq => hI.2.2.1.2.2 q hq) ?_; exact lw_ret hx hb hr hlocks dL_law_955)
                                                      · have hw := hw.2 c33_24
                                                        by_cases c33_25 : y32 = 25
                                                        · have hw := hw.1 c33_25
                                                          refine lv_tableIn (tgt := 956) S.1 S.2.1 dL_law_33 (by rw [c33_25] <;> decide) (by rw [c33_25] <;> decide) (by rw [c33_25] <;> rfl) (by decide) ?_
                                                          refine lv_aload_n S.1 S.2.1 dL_law_956 rfl (lv_at hl 1 rfl) ?_
                                                          refine m_vi (cf := fun v => VL h r q cs (embT u v)) (As := []) (rest := []) S (VL_T h r q cs u) hI (by rw [embT_self]) (c_X11_back l D h r q cs u _ hw) (cwV 0 S.2.2.2.2 gT_X11_back rfl rfl rfl (by decide +kernel) ⟨Nat.le_of_ble_eq_true rfl, Nat.le_of_ble_eq_true rfl⟩) (VT_o0 h r q cs u) rfl rfl hl.1 rfl (Nat.le_of_ble_eq_true rfl) dL_law_957 ⟨Nat.le_of_ble_eq_true rfl, Nat.le_of_ble_eq_true rfl⟩ (fun y957 v957 H locs hw hI => ?_)
                                                          obtain ⟨u957, eu957⟩ : ∃ z : CS, z = embT u v957 := ⟨_, rfl⟩
                                                          have hw := hw u957 eu957
                                                          replace hI : mI D (mT cs) (fun q : Nat => s.heap.size ≤ q) s.heap s (VL h r q cs u957) H locs := by rw [eu957]; exact hI
                                                          refine lv_aload_n S.1 S.2.1 dL_law_960 rfl (lv_at hl 2 rfl) ?_
                                                          refine m_vi (cf := fun v => VL h r q cs (mu u957 25 v)) (As := []) (rest := [.int y957]) S (VL_c25 h r q cs u957) hI (by rw [mu_self]) (c_X12_back l D (h 25) (r 25) cs (u957 25) _ hw) (cwV 0 S.2.2.2.2 gT_X12_back rfl rfl rfl (by decide +kernel) ⟨Nat.le_of_ble_eq_true rfl, Nat.le_of_ble_eq_true rfl⟩) (W12_at0 _ _ _ _) rfl rfl hl.1 rfl (Nat.le_of_ble_eq_true rfl) dL_law_961 ⟨Nat.le_of_ble_eq_true rfl, Nat.le_of_ble_eq_true rfl⟩ (fun y961 v961 H locs hw hI => ?_)
                                                          obtain ⟨u961, eu961⟩ : ∃ z : CS, z = mu u957 25 v961 := ⟨_, rfl⟩
                                                          have hw := hw u961 eu961
                                                          replace hI : mI D (mT cs) (fun q : Nat => s.heap.size ≤ q) s.heap s (VL h r q cs u961) H locs := by rw [eu961]; exact hI
                                                          refine lv_icmp_eq (tgt := 1386) S.1 S.2.1 dL_law_964 (by decide) (fun c964 => ?_) (fun c964 => ?_)
                                                          · have hw := hw.1 c964
                                                            exact b1386 B18 hB18 x3 u961 hw H locs ls hI (lv_sub hl [0, 1, 2, 3] rfl)
                                                          · have hw := hw.2 c964
                                                            refine lv_iconst (v := 0) S.1 S.2.1 dL_law_967 (by decide) ?_
                                                            rw [hQ] at hw
                                                            first
                                                              | exact absurd (show (0 : Int32) = 1 from hw.2) (by decide)
                                                              | (refine va_forget (fun q hq => hI.2.2.1.2.2 q hq) ?_; exact lw_ret hx hb hr hlocks dL_law_968)
                                                        · have hw := hw.2 c33_25
                                                          by_cases c33_26 : y32 = 26
                                                          · have hw := hw.1 c33_26
                                                            refine lv_tableIn (tgt := 969) S.1 S.2.1 dL_law_33 (by rw [c33_26] <;> decide) (by rw [c33_26] <;> decide) (by rw [c33_26] <;> rfl) (by decide) ?_
                                                            refine lv_aload_n S.1 S.2.1 dL_law_969 rfl (lv_at hl 1 rfl) ?_
                                                            refine m_vi (cf := fun v => VL h r q cs (embT u v)) (As := []) (rest := []) S (VL_T h r q cs u) hI (by rw [embT_self]) (c_X11_undo l D h r q cs u _ hw) (cwV 0 S.2.2.2.2 gT_X11_undo rfl rfl rfl (by decide +kernel) ⟨Nat.le_of_ble_eq_true rfl, Nat.le_of_ble_eq_true rfl⟩) (VT_o0 h r q cs u) rfl rfl hl.1 rfl (Nat.le_of_ble_eq_true rfl) dL_law_970 ⟨Nat.le_of_ble_eq_true rfl, Nat.le_of_ble_eq_true rfl⟩ (fun y970 v970 H locs hw hI => ?_)
                                                            obtain ⟨u970, eu970⟩ : ∃ z : CS, z = embT u v970 := ⟨_, rfl⟩
                                                            have hw := hw u970 eu970
                                                            replace hI : mI D (mT cs) (fun q : Nat => s.heap.size ≤ q) s.heap s (VL h r q cs u970) H locs := by rw [eu970]; exact hI
                                                            refine lv_aload_n S.1 S.2.1 dL_law_973 rfl (lv_at hl 2 rfl) ?_
                                                            refine m_vi (cf := fun v => VL h r q cs (mu u970 25 v)) (As := []) (rest := [.int y970]) S (VL_c25 h r q cs u970) hI (by rw [mu_self]) (c_X12_undo l D (h 25) (r 25) cs (u970 25) _ hw) (cwV 0 S.2.2.2.2 gT_X12_undo rfl rfl rfl (by decide +kernel) ⟨Nat.le_of_ble_eq_true rfl, Nat.le_of_ble_eq_true rfl⟩) (W12_at0 _ _ _ _) rfl rfl hl.1 rfl (Nat.le_of_ble_eq_true rfl) dL_law_974 ⟨Nat.le_of_ble_eq_true rfl, Nat.le_of_ble_eq_true rfl⟩ (fun y974 v974 H locs hw hI => ?_)
                                                            obtain ⟨u974, eu974⟩ : ∃ z : CS, z = mu u970 25 v974 := ⟨_, rfl⟩
                                                            have hw := hw u974 eu974
                                                            replace hI : mI D (mT cs) (fun q : Nat => s.heap.size ≤ q) s.heap s (VL h r q cs u974) H locs := by rw [eu974]; exact hI
                                                            refine lv_icmp_eq (tgt := 1386) S.1 S.2.1 dL_law_977 (by decide) (fun c977 => ?_) (fun c977 => ?_)
                                                            · have hw := hw.1 c977
                                                              exact b1386 B18 hB18 x3 u974 hw H locs ls hI (lv_sub hl [0, 1, 2, 3] rfl)
                                                            · have hw := hw.2 c977
                                                              refine lv_iconst (v := 0) S.1 S.2.1 dL_law_980 (by decide) ?_
                                                              rw [hQ] at hw
                                                              first
                                                                | exact absurd (show (0 : Int32) = 1 from hw.2) (by decide)
                                                                | (refine va_forget (fun q hq => hI.2.2.1.2.2 q hq) ?_; exact lw_ret hx hb hr hlocks dL_law_981)
                                                          · have hw := hw.2 c33_26
                                                            by_cases c33_27 : y32 = 27
                                                            · have hw := hw.1 c33_27
                                                              refine lv_tableIn (tgt := 982) S.1 S.2.1 dL_law_33 (by rw [c33_27] <;> decide) (by rw [c33_27] <;> decide) (by rw [c33_27] <;> rfl) (by decide) ?_
                                                              refine lv_aload_n S.1 S.2.1 dL_law_982 rfl (lv_at hl 1 rfl) ?_
                                                              refine m_vi (cf := fun v => VL h r q cs (embT u v)) (As := []) (rest := []) S (VL_T h r q cs u) hI (by rw [embT_self]) (c_X11_redo l D h r q cs u _ hw) (cwV 0 S.2.2.2.2 gT_X11_redo rfl rfl rfl (by decide +kernel) ⟨Nat.le_of_ble_eq_true rfl, Nat.le_of_ble_eq_true rfl⟩) (VT_o0 h r q cs u) rfl rfl hl.1 rfl (Nat.le_of_ble_eq_true rfl) dL_law_983 ⟨Nat.le_of_ble_eq_true rfl, Nat.le_of_ble_eq_true rfl⟩ (fun y983 v983 H locs hw hI => ?_)
                                                              obtain ⟨u983, eu983⟩ : ∃ z : CS, z = embT u v983 := ⟨_, rfl⟩
                                                              have hw := hw u983 eu983
                                                              replace hI : mI D (mT cs) (fun q : Nat => s.heap.size ≤ q) s.heap s (VL h r q cs u983) H locs := by rw [eu983]; exact hI
                                                              refine lv_aload_n S.1 S.2.1 dL_law_986 rfl (lv_at hl 2 rfl) ?_
                                                              refine m_vi (cf := fun v => VL h r q cs (mu u983 25 v)) (As := []) (rest := [.int y983]) S (VL_c25 h r q cs u983) hI (by rw [mu_self]) (c_X12_redo l D (h 25) (r 25) cs (u983 25) _ hw) (cwV 0 S.2.2.2.2 gT_X12_redo rfl rfl rfl (by decide +kernel) ⟨Nat.le_of_ble_eq_true rfl, Nat.le_of_ble_eq_true rfl⟩) (W12_at0 _ _ _ _) rfl rfl hl.1 rfl (Nat.le_of_ble_eq_true rfl) dL_law_987 ⟨Nat.le_of_ble_eq_true rfl, Nat.le_of_ble_eq_true rfl⟩ (fun y987 v987 H locs hw hI => ?_)
                                                              obtain ⟨u987, eu987⟩ : ∃ z : CS, z = mu u983 25 v987 := ⟨_, rfl⟩
                                                              have hw := hw u987 eu987
                                                              replace hI : mI D (mT cs) (fun q : Nat => s.heap.size ≤ q) s.heap s (VL h r q cs u987) H locs := by rw [eu987]; exact hI
                                                              refine lv_icmp_eq (tgt := 1386) S.1 S.2.1 dL_law_990 (by decide) (fun c990 => ?_) (fun c990 => ?_)
                                                              · have hw := hw.1 c990
                                                                exact b1386 B18 hB18 x3 u987 hw H locs ls hI (lv_sub hl [0, 1, 2, 3] rfl)
                                                              · have hw := hw.2 c990
                                                                refine lv_iconst (v := 0) S.1 S.2.1 dL_law_993 (by decide) ?_
                                                                rw [hQ] at hw
                                                                first
                                                                  | exact absurd (show (0 : Int32) = 1 from hw.2) (by decide)
                                                                  | (refine va_forget (fun q hq => hI.2.2.1.2.2 q hq) ?_; exact lw_ret hx hb hr hlocks dL_law_994)
                                                            · have hw := hw.2 c33_27
                                                              by_cases c33_28 : y32 = 28
                                                              · have hw := hw.1 c33_28
                                                                refine lv_tableIn (tgt := 995) S.1 S.2.1 dL_law_33 (by rw [c33_28] <;> decide) (by rw [c33_28] <;> decide) (by rw [c33_28] <;> rfl) (by decide) ?_
                                                                refine lv_aload_n S.1 S.2.1 dL_law_995 rfl (lv_at hl 1 rfl) ?_
                                                                refine lv_aload_n S.1 S.2.1 dL_law_996 rfl (lv_at hl 0 rfl) ?_
                                                                refine lv_iload_n S.1 S.2.1 dL_law_997 rfl (lv_at hl 3 rfl) ?_
                                                                refine lv_iconst (v := 1) S.1 S.2.1 dL_law_998 (by decide) ?_
                                                                refine lv_iadd S.1 S.2.1 dL_law_999 ?_
                                                                refine lv_topi (fun y999 ey999 => ?_)
                                                                have hw := hw y999 ey999
                                                                refine va_sld S.1 S.2.1 hX hbl hbA hI.2.2.1 hw.1 dL_law_1000 ?_
                                                                refine lv_topi (fun y1000 ey1000 => ?_)
                                                                have hw := hw.2 y1000 ey1000
                                                                refine m_vi (cf := fun v => VL h r q cs (embT u v)) (As := [.int y1000]) (rest := []) S (VL_T h r q cs u) hI (by rw [embT_self]) (c_X11_body l D h r q cs y1000 u _ hw) (cwV 1 S.2.2.2.2 gT_X11_body rfl rfl rfl (by decide +kernel) ⟨Nat.le_of_ble_eq_true rfl, Nat.le_of_ble_eq_true rfl⟩) (VT_o0 h r q cs u) rfl rfl hl.1 rfl (Nat.le_of_ble_eq_true rfl) dL_law_1001 ⟨Nat.le_of_ble_eq_true rfl, Nat.le_of_ble_eq_true rfl⟩ (fun y1001 v1001 H locs hw hI => ?_)
                                                                obtain ⟨u1001, eu1001⟩ : ∃ z : CS, z = embT u v1001 := ⟨_, rfl⟩
                                                                have hw := hw u1001 eu1001
                                                                replace hI : mI D (mT cs) (fun q : Nat => s.heap.size ≤ q) s.heap s (VL h r q cs u1001) H locs := by rw [eu1001]; exact hI
                                                                refine lv_aload_n S.1 S.2.1 dL_law_1004 rfl (lv_at hl 2 rfl) ?_
                                                                refine lv_aload_n S.1 S.2.1 dL_law_1005 rfl (lv_at hl 0 rfl) ?_
                                                                refine lv_iload_n S.1 S.2.1 dL_law_1006 rfl (lv_at hl 3 rfl) ?_
                                                                refine lv_iconst (v := 1) S.1 S.2.1 dL_law_1007 (by decide) ?_
                                                                refine lv_iadd S.1 S.2.1 dL_law_1008 ?_
                                                                refine lv_topi (fun y1008 ey1008 => ?_)
                                                                have hw := hw y1008 ey1008
                                                                refine va_sld S.1 S.2.1 hX hbl hbA hI.2.2.1 hw.1 dL_law_1009 ?_
                                                                refine lv_topi (fun y1009 ey1009 => ?_)
                                                                have hw := hw.2 y1009 ey1009
                                                                refine m_vi (cf := fun v => VL h r q cs (mu u1001 25 v)) (As := [.int y1009]) (rest := [.int y1001]) S (VL_c25 h r q cs u1001) hI (by rw [mu_self]) (c_X12_body l D (h 25) (r 25) cs y1009 (u1001 25) _ hw) (cwV 1 S.2.2.2.2 gT_X12_body rfl rfl rfl (by decide +kernel) ⟨Nat.le_of_ble_eq_true rfl, Nat.le_of_ble_eq_true rfl⟩) (W12_at0 _ _ _ _) rfl rfl hl.1 rfl (Nat.le_of_ble_eq_true rfl) dL_law_1010 ⟨Nat.le_of_ble_eq_true rfl, Nat.le_of_ble_eq_true rfl⟩ (fun y1010 v1010 H locs hw hI => ?_)
                                                                obtain ⟨u1010, eu1010⟩ : ∃ z : CS, z = mu u1001 25 v1010 := ⟨_, rfl⟩
                                                                have hw := hw u1010 eu1010
                                                                replace hI : mI D (mT cs) (fun q : Nat => s.heap.size ≤ q) s.heap s (VL h r q cs u1010) H locs := by rw [eu1010]; exact hI
                                                                refine lv_icmp_eq (tgt := 1386) S.1 S.2.1 dL_law_1013 (by decide) (fun c1013 => ?_) (fun c1013 => ?_)
                                                                · have hw := hw.1 c1013
                                                                  exact b1386 B18 hB18 x3 u1010 hw H locs ls hI (lv_sub hl [0, 1, 2, 3] rfl)
                                                                · have hw := hw.2 c1013
                                                                  refine lv_iconst (v := 0) S.1 S.2.1 dL_law_1016 (by decide) ?_
                                                                  rw [hQ] at hw
                                                                  first
                                                                    | exact absurd (show (0 : Int32) = 1 from hw.2) (by decide)
                                                                    | (refine va_forget (fun q hq => hI.2.2.1.2.2 q hq) ?_; exact lw_ret hx hb hr hlocks dL_law_1017)
                                                              · have hw := hw.2 c33_28
                                                                by_cases c33_29 : y32 = 29
                                                                · have hw := hw.1 c33_29
                                                                  refine lv_tableIn (tgt := 1018) S.1 S.2.1 dL_law_33 (by rw [c33_29] <;> decide) (by rw [c33_29] <;> decide) (by rw [c33_29] <;> rfl) (by decide) ?_
                                                                  refine lv_aload_n S.1 S.2.1 dL_law_1018 rfl (lv_at hl 1 rfl) ?_
                                                                  refine lv_aload_n S.1 S.2.1 dL_law_1019 rfl (lv_at hl 0 rfl) ?_
                                                                  refine lv_iload_n S.1 S.2.1 dL_law_1020 rfl (lv_at hl 3 rfl) ?_
                                                                  refine lv_iconst (v := 1) S.1 S.2.1 dL_law_1021 (by decide) ?_
                                                                  refine lv_iadd S.1 S.2.1 dL_law_1022 ?_
                                                                  refine lv_topi (fun y1022 ey1022 => ?_)
                                                                  have hw := hw y1022 ey1022
                                                                  refine va_sld S.1 S.2.1 hX hbl hbA hI.2.2.1 hw.1 dL_law_1023 ?_
                                                                  refine lv_topi (fun y1023 ey1023 => ?_)
                                                                  have hw := hw.2 y1023 ey1023
                                                                  refine lv_aload_n S.1 S.2.1 dL_law_1024 rfl (lv_at hl 0 rfl) ?_
                                                                  refine lv_iload_n S.1 S.2.1 dL_law_1025 rfl (lv_at hl 3 rfl) ?_
                                                                  refine lv_iconst (v := 2) S.1 S.2.1 dL_law_1026 (by decide) ?_
                                                                  refine lv_iadd S.1 S.2.1 dL_law_1027 ?_
                                                                  refine lv_topi (fun y1027 ey1027 => ?_)
                                                                  have hw := hw y1027 ey1027
                                                                  refine va_sld S.1 S.2.1 hX hbl hbA hI.2.2.1 hw.1 dL_law_1028 ?_
                                                                  refine lv_topi (fun y1028 ey1028 => ?_)
                                                                  have hw := hw.2 y1028 ey1028
                                                                  refine lv_aload_n S.1 S.2.1 dL_law_1029 rfl (lv_at hl 0 rfl) ?_
                                                                  refine lv_iload_n S.1 S.2.1 dL_law_1030 rfl (lv_at hl 3 rfl) ?_
                                                                  refine lv_iconst (v := 3) S.1 S.2.1 dL_law_1031 (by decide) ?_
                                                                  refine lv_iadd S.1 S.2.1 dL_law_1032 ?_
                                                                  refine lv_topi (fun y1032 ey1032 => ?_)
                                                                  have hw := hw y1032 ey1032
                                                                  refine va_sld S.1 S.2.1 hX hbl hbA hI.2.2.1 hw.1 dL_law_1033 ?_
                                                                  refine lv_topi (fun y1033 ey1033 => ?_)
                                                                  have hw := hw.2 y1033 ey1033
                                                                  refine m_vi (cf := fun v => VL h r q cs (embT u v)) (As := [.int y1023, .int y1028, .int y1033]) (rest := []) S (VL_T h r q cs u) hI (by rw [embT_self]) (c_X11_act l D h r q cs y1023 y1028 y1033 u _ hw) (cwV 3 S.2.2.2.2 gT_X11_act rfl rfl rfl (by decide +kernel) ⟨Nat.le_of_ble_eq_true rfl, Nat.le_of_ble_eq_true rfl⟩) (VT_o0 h r q cs u) rfl rfl hl.1 rfl (Nat.le_of_ble_eq_true rfl) dL_law_1034 ⟨Nat.le_of_ble_eq_true rfl, Nat.le_of_ble_eq_true rfl⟩ (fun y1034 v1034 H locs hw hI => ?_)
                                                                  obtain ⟨u1034, eu1034⟩ : ∃ z : CS, z = embT u v1034 := ⟨_, rfl⟩
                                                                  have hw := hw u1034 eu1034
                                                                  replace hI : mI D (mT cs) (fun q : Nat => s.heap.size ≤ q) s.heap s (VL h r q cs u1034) H locs := by rw [eu1034]; exact hI
                                                                  refine lv_aload_n S.1 S.2.1 dL_law_1037 rfl (lv_at hl 2 rfl) ?_
                                                                  refine lv_aload_n S.1 S.2.1 dL_law_1038 rfl (lv_at hl 0 rfl) ?_
                                                                  refine lv_iload_n S.1 S.2.1 dL_law_1039 rfl (lv_at hl 3 rfl) ?_
                                                                  refine lv_iconst (v := 1) S.1 S.2.1 dL_law_1040 (by decide) ?_
                                                                  refine lv_iadd S.1 S.2.1 dL_law_1041 ?_
                                                                  refine lv_topi (fun y1041 ey1041 => ?_)
                                                                  have hw := hw y1041 ey1041
                                                                  refine va_sld S.1 S.2.1 hX hbl hbA hI.2.2.1 hw.1 dL_law_1042 ?_
                                                                  refine lv_topi (fun y1042 ey1042 => ?_)
                                                                  have hw := hw.2 y1042 ey1042
                                                                  refine lv_aload_n S.1 S.2.1 dL_law_1043 rfl (lv_at hl 0 rfl) ?_
                                                                  refine lv_iload_n S.1 S.2.1 dL_law_1044 rfl (lv_at hl 3 rfl) ?_
                                                                  refine lv_iconst (v := 2) S.1 S.2.1 dL_law_1045 (by decide) ?_
                                                                  refine lv_iadd S.1 S.2.1 dL_law_1046 ?_
                                                                  refine lv_topi (fun y1046 ey1046 => ?_)
                                                                  have hw := hw y1046 ey1046
                                                                  refine va_sld S.1 S.2.1 hX hbl hbA hI.2.2.1 hw.1 dL_law_1047 ?_
                                                                  refine lv_topi (fun y1047 ey1047 => ?_)
                                                                  have hw := hw.2 y1047 ey1047
                                                                  refine lv_aload_n S.1 S.2.1 dL_law_1048 rfl (lv_at hl 0 rfl) ?_
                                                                  refine lv_iload_n S.1 S.2.1 dL_law_1049 rfl (lv_at hl 3 rfl) ?_
                                                                  refine lv_iconst (v := 3) S.1 S.2.1 dL_law_1050 (by decide) ?_
                                                                  refine lv_iadd S.1 S.2.1 dL_law_1051 ?_
                                                                  refine lv_topi (fun y1051 ey1051 => ?_)
                                                                  have hw := hw y1051 ey1051
                                                                  refine va_sld S.1 S.2.1 hX hbl hbA hI.2.2.1 hw.1 dL_law_1052 ?_
                                                                  refine lv_topi (fun y1052 ey1052 => ?_)
                                                                  have hw := hw.2 y1052 ey1052
                                                                  refine m_vi (cf := fun v => VL h r q cs (mu u1034 25 v)) (As := [.int y1042, .int y1047, .int y1052]) (rest := [.int y1034]) S (VL_c25 h r q cs u1034) hI (by rw [mu_self]) (c_X12_act l D (h 25) (r 25) cs y1042 y1047 y1052 (u1034 25) _ hw) (cwV 3 S.2.2.2.2 gT_X12_act rfl rfl rfl (by decide +kernel) ⟨Nat.le_of_ble_eq_true rfl, Nat.le_of_ble_eq_true rfl⟩) (W12_at0 _ _ _ _) rfl rfl hl.1 rfl (Nat.le_of_ble_eq_true rfl) dL_law_1053 ⟨Nat.le_of_ble_eq_true rfl, Nat.le_of_ble_eq_true rfl⟩ (fun y1053 v1053 H locs hw hI => ?_)
                                                                  obtain ⟨u1053, eu1053⟩ : ∃ z : CS, z = mu u1034 25 v1053 := ⟨_, rfl⟩
                                                                  have hw := hw u1053 eu1053
                                                                  replace hI : mI D (mT cs) (fun q : Nat => s.heap.size ≤ q) s.heap s (VL h r q cs u1053) H locs := by rw [eu1053]; exact hI
                                                                  refine lv_icmp_eq (tgt := 1386) S.1 S.2.1 dL_law_1056 (by decide) (fun c1056 => ?_) (fun c1056 => ?_)
                                                                  · have hw := hw.1 c1056
                                                                    exact b1386 B18 hB18 x3 u1053 hw H locs ls hI (lv_sub hl [0, 1, 2, 3] rfl)
                                                                  · have hw := hw.2 c1056
                                                                    refine lv_iconst (v := 0) S.1 S.2.1 dL_law_1059 (by decide) ?_
                                                                    rw [hQ] at hw
                                                                    first
                                                                      | exact absurd (show (0 : Int32) = 1 from hw.2) (by decide)
                                                                      | (refine va_forget (fun q hq => hI.2.2.1.2.2 q hq) ?_; exact lw_ret hx hb hr hlocks dL_law_1060)
                                                                · have hw := hw.2 c33_29
                                                                  by_cases c33_30 : y32 = 30
                                                                  · have hw := hw.1 c33_30
                                                                    refine lv_tableIn (tgt := 1061) S.1 S.2.1 dL_law_33 (by rw [c33_30] <;> decide) (by rw [c33_30] <;> decide) (by rw [c33_30] <;> rfl) (by decide) ?_
                                                                    refine lv_aload_n S.1 S.2.1 dL_law_1061 rfl (lv_at hl 1 rfl) ?_
                                                                    refine lv_aload_n S.1 S.2.1 dL_law_1062 rfl (lv_at hl 0 rfl) ?_
                                                                    refine lv_iload_n S.1 S.2.1 dL_law_1063 rfl (lv_at hl 3 rfl) ?_
                                                                    refine lv_iconst (v := 1) S.1 S.2.1 dL_law_1064 (by decide) ?_
                                                                    refine lv_iadd S.1 S.2.1 dL_law_1065 ?_
                                                                    refine lv_topi (fun y1065 ey1065 => ?_)
                                                                    have hw := hw y1065 ey1065
                                                                    refine va_sld S.1 S.2.1 hX hbl hbA hI.2.2.1 hw.1 dL_law_1066 ?_
                                                                    refine lv_topi (fun y1066 ey1066 => ?_)
                                                                    have hw := hw.2 y1066 ey1066
                                                                    refine m_vi (cf := fun v => VL h r q cs (embT u v)) (As := [.int y1066]) (rest := []) S (VL_T h r q cs u) hI (by rw [embT_self]) (c_X11_trace l D h r q cs y1066 u _ hw) (cwV 1 S.2.2.2.2 gT_X11_trace rfl rfl rfl (by decide +kernel) ⟨Nat.le_of_ble_eq_true rfl, Nat.le_of_ble_eq_true rfl⟩) (VT_o0 h r q cs u) rfl rfl hl.1 rfl (Nat.le_of_ble_eq_true rfl) dL_law_1067 ⟨Nat.le_of_ble_eq_true rfl, Nat.le_of_ble_eq_true rfl⟩ (fun y1067 v1067 H locs hw hI => ?_)
                                                                    obtain ⟨u1067, eu1067⟩ : ∃ z : CS, z = embT u v1067 := ⟨_, rfl⟩
                                                                    have hw := hw u1067 eu1067
                                                                    replace hI : mI D (mT cs) (fun q : Nat => s.heap.size ≤ q) s.heap s (VL h r q cs u1067) H locs := by rw [eu1067]; exact hI
                                                                    refine lv_aload_n S.1 S.2.1 dL_law_1070 rfl (lv_at hl 2 rfl) ?_
                                                                    refine lv_aload_n S.1 S.2.1 dL_law_1071 rfl (lv_at hl 0 rfl) ?_
                                                                    refine lv_iload_n S.1 S.2.1 dL_law_1072 rfl (lv_at hl 3 rfl) ?_
                                                                    refine lv_iconst (v := 1) S.1 S.2.1 dL_law_1073 (by decide) ?_
                                                                    refine lv_iadd S.1 S.2.1 dL_law_1074 ?_
                                                                    refine lv_topi (fun y1074 ey1074 => ?_)
                                                                    have hw := hw y1074 ey1074
                                                                    refine va_sld S.1 S.2.1 hX hbl hbA hI.2.2.1 hw.1 dL_law_1075 ?_
                                                                    refine lv_topi (fun y1075 ey1075 => ?_)
                                                                    have hw := hw.2 y1075 ey1075
                                                                    refine m_vi (cf := fun v => VL h r q cs (mu u1067 25 v)) (As := [.int y1075]) (rest := [.int y1067]) S (VL_c25 h r q cs u1067) hI (by rw [mu_self]) (c_X12_trace l D (h 25) (r 25) cs y1075 (u1067 25) _ hw) (cwV 1 S.2.2.2.2 gT_X12_trace rfl rfl rfl (by decide +kernel) ⟨Nat.le_of_ble_eq_true rfl, Nat.le_of_ble_eq_true rfl⟩) (W12_at0 _ _ _ _) rfl rfl hl.1 rfl (Nat.le_of_ble_eq_true rfl) dL_law_1076 ⟨Nat.le_of_ble_eq_true rfl, Nat.le_of_ble_eq_true rfl⟩ (fun y1076 v1076 H locs hw hI => ?_)
                                                                    obtain ⟨u1076, eu1076⟩ : ∃ z : CS, z = mu u1067 25 v1076 := ⟨_, rfl⟩
                                                                    have hw := hw u1076 eu1076
                                                                    replace hI : mI D (mT cs) (fun q : Nat => s.heap.size ≤ q) s.heap s (VL h r q cs u1076) H locs := by rw [eu1076]; exact hI
                                                                    refine lv_icmp_eq (tgt := 1386) S.1 S.2.1 dL_law_1079 (by decide) (fun c1079 => ?_) (fun c1079 => ?_)
                                                                    · have hw := hw.1 c1079
                                                                      exact b1386 B18 hB18 x3 u1076 hw H locs ls hI (lv_sub hl [0, 1, 2, 3] rfl)
                                                                    · have hw := hw.2 c1079
                                                                      refine lv_iconst (v := 0) S.1 S.2.1 dL_law_1082 (by decide) ?_
                                                                      rw [hQ] at hw
                                                                      first
                                                                        | exact absurd (show (0 : Int32) = 1 from hw.2) (by decide)
                                                                        | (refine va_forget (fun q hq => hI.2.2.1.2.2 q hq) ?_; exact lw_ret hx hb hr hlocks dL_law_1083)
                                                                  · have hw := hw.2 c33_30
                                                                    by_cases c33_31 : y32 = 31
                                                                    · have hw := hw.1 c33_31
                                                                      refine lv_tableIn (tgt := 1084) S.1 S.2.1 dL_law_33 (by rw [c33_31] <;> decide) (by rw [c33_31] <;> decide) (by rw [c33_31] <;> rfl) (by decide) ?_
                                                                      refine lv_aload_n S.1 S.2.1 dL_law_1084 rfl (lv_at hl 1 rfl) ?_
                                                                      refine lv_aload_n S.1 S.2.1 dL_law_1085 rfl (lv_at hl 0 rfl) ?_
                                                                      refine lv_iload_n S.1 S.2.1 dL_law_1086 rfl (lv_at hl 3 rfl) ?_
                                                                      refine lv_iconst (v := 1) S.1 S.2.1 dL_law_1087 (by decide) ?_
                                                                      refine lv_iadd S.1 S.2.1 dL_law_1088 ?_
                                                                      refine lv_topi (fun y1088 ey1088 => ?_)
                                                                      have hw := hw y1088 ey1088
                                                                      refine va_sld S.1 S.2.1 hX hbl hbA hI.2.2.1 hw.1 dL_law_1089 ?_
                                                                      refine lv_topi (fun y1089 ey1089 => ?_)
                                                                      have hw := hw.2 y1089 ey1089
                                                                      refine lv_aload_n S.1 S.2.1 dL_law_1090 rfl (lv_at hl 0 rfl) ?_
                                                                      refine lv_iload_n S.1 S.2.1 dL_law_1091 rfl (lv_at hl 3 rfl) ?_
                                                                      refine lv_iconst (v := 2) S.1 S.2.1 dL_law_1092 (by decide) ?_
                                                                      refine lv_iadd S.1 S.2.1 dL_law_1093 ?_
                                                                      refine lv_topi (fun y1093 ey1093 => ?_)
                                                                      have hw := hw y1093 ey1093
                                                                      refine va_sld S.1 S.2.1 hX hbl hbA hI.2.2.1 hw.1 dL_law_1094 ?_
                                                                      refine lv_topi (fun y1094 ey1094 => ?_)
                                                                      have hw := hw.2 y1094 ey1094
                                                                      refine m_vi (cf := fun v => VL h r q cs (embT u v)) (As := [.int y1089, .int y1094]) (rest := []) S (VL_T h r q cs u) hI (by rw [embT_self]) (c_X11_keep l D h r q cs y1089 y1094 u _ hw) (cwV 2 S.2.2.2.2 gT_X11_keep rfl rfl rfl (by decide +kernel) ⟨Nat.le_of_ble_eq_true rfl, Nat.le_of_ble_eq_true rfl⟩) (VT_o0 h r q cs u) rfl rfl hl.1 rfl (Nat.le_of_ble_eq_true rfl) dL_law_1095 ⟨Nat.le_of_ble_eq_true rfl, Nat.le_of_ble_eq_true rfl⟩ (fun y1095 v1095 H locs hw hI => ?_)
                                                                      obtain ⟨u1095, eu1095⟩ : ∃ z : CS, z = embT u v1095 := ⟨_, rfl⟩
                                                                      have hw := hw u1095 eu1095
                                                                      replace hI : mI D (mT cs) (fun q : Nat => s.heap.size ≤ q) s.heap s (VL h r q cs u1095) H locs := by rw [eu1095]; exact hI
                                                                      refine lv_aload_n S.1 S.2.1 dL_law_1098 rfl (lv_at hl 2 rfl) ?_
                                                                      refine lv_aload_n S.1 S.2.1 dL_law_1099 rfl (lv_at hl 0 rfl) ?_
                                                                      refine lv_iload_n S.1 S.2.1 dL_law_1100 rfl (lv_at hl 3 rfl) ?_
                                                                      refine lv_iconst (v := 1) S.1 S.2.1 dL_law_1101 (by decide) ?_
                                                                      refine lv_iadd S.1 S.2.1 dL_law_1102 ?_
                                                                      refine lv_topi (fun y1102 ey1102 => ?_)
                                                                      have hw := hw y1102 ey1102
                                                                      refine va_sld S.1 S.2.1 hX hbl hbA hI.2.2.1 hw.1 dL_law_1103 ?_
                                                                      refine lv_topi (fun y1103 ey1103 => ?_)
                                                                      have hw := hw.2 y1103 ey1103
                                                                      refine lv_aload_n S.1 S.2.1 dL_law_1104 rfl (lv_at hl 0 rfl) ?_
                                                                      refine lv_iload_n S.1 S.2.1 dL_law_1105 rfl (lv_at hl 3 rfl) ?_
                                                                      refine lv_iconst (v := 2) S.1 S.2.1 dL_law_1106 (by decide) ?_
                                                                      refine lv_iadd S.1 S.2.1 dL_law_1107 ?_
                                                                      refine lv_topi (fun y1107 ey1107 => ?_)
                                                                      have hw := hw y1107 ey1107
                                                                      refine va_sld S.1 S.2.1 hX hbl hbA hI.2.2.1 hw.1 dL_law_1108 ?_
                                                                      refine lv_topi (fun y1108 ey1108 => ?_)
                                                                      have hw := hw.2 y1108 ey1108
                                                                      refine m_vi (cf := fun v => VL h r q cs (mu u1095 25 v)) (As := [.int y1103, .int y1108]) (rest := [.int y1095]) S (VL_c25 h r q cs u1095) hI (by rw [mu_self]) (c_X12_keep l D (h 25) (r 25) cs y1103 y1108 (u1095 25) _ hw) (cwV 2 S.2.2.2.2 gT_X12_keep rfl rfl rfl (by decide +kernel) ⟨Nat.le_of_ble_eq_true rfl, Nat.le_of_ble_eq_true rfl⟩) (W12_at0 _ _ _ _) rfl rfl hl.1 rfl (Nat.le_of_ble_eq_true rfl) dL_law_1109 ⟨Nat.le_of_ble_eq_true rfl, Nat.le_of_ble_eq_true rfl⟩ (fun y1109 v1109 H locs hw hI => ?_)
                                                                      obtain ⟨u1109, eu1109⟩ : ∃ z : CS, z = mu u1095 25 v1109 := ⟨_, rfl⟩
                                                                      have hw := hw u1109 eu1109
                                                                      replace hI : mI D (mT cs) (fun q : Nat => s.heap.size ≤ q) s.heap s (VL h r q cs u1109) H locs := by rw [eu1109]; exact hI
                                                                      refine lv_icmp_eq (tgt := 1386) S.1 S.2.1 dL_law_1112 (by decide) (fun c1112 => ?_) (fun c1112 => ?_)
                                                                      · have hw := hw.1 c1112
                                                                        exact b1386 B18 hB18 x3 u1109 hw H locs ls hI (lv_sub hl [0, 1, 2, 3] rfl)
                                                                      · have hw := hw.2 c1112
                                                                        refine lv_iconst (v := 0) S.1 S.2.1 dL_law_1115 (by decide) ?_
                                                                        rw [hQ] at hw
                                                                        first
                                                                          | exact absurd (show (0 : Int32) = 1 from hw.2) (by decide)
                                                                          | (refine va_forget (fun q hq => hI.2.2.1.2.2 q hq) ?_; exact lw_ret hx hb hr hlocks dL_law_1116)
                                                                    · have hw := hw.2 c33_31
                                                                      by_cases c33_32 : y32 = 32
                                                                      · have hw := hw.1 c33_32
                                                                        refine lv_tableIn (tgt := 1117) S.1 S.2.1 dL_law_33 (by rw [c33_32] <;> decide) (by rw [c33_32] <;> decide) (by rw [c33_32] <;> rfl) (by decide) ?_
                                                                        refine lv_aload_n S.1 S.2.1 dL_law_1117 rfl (lv_at hl 1 rfl) ?_
                                                                        refine lv_aload_n S.1 S.2.1 dL_law_1118 rfl (lv_at hl 0 rfl) ?_
                                                                        refine lv_iload_n S.1 S.2.1 dL_law_1119 rfl (lv_at hl 3 rfl) ?_
                                                                        refine lv_iconst (v := 1) S.1 S.2.1 dL_law_1120 (by decide) ?_
                                                                        refine lv_iadd S.1 S.2.1 dL_law_1121 ?_
                                                                        refine lv_topi (fun y1121 ey1121 => ?_)
                                                                        have hw := hw y1121 ey1121
                                                                        refine va_sld S.1 S.2.1 hX hbl hbA hI.2.2.1 hw.1 dL_law_1122 ?_
                                                                        refine lv_topi (fun y1122 ey1122 => ?_)
                                                                        have hw := hw.2 y1122 ey1122
                                                                        refine lv_aload_n S.1 S.2.1 dL_law_1123 rfl (lv_at hl 0 rfl) ?_
                                                                        refine lv_iload_n S.1 S.2.1 dL_law_1124 rfl (lv_at hl 3 rfl) ?_
                                                                        refine lv_iconst (v := 2) S.1 S.2.1 dL_law_1125 (by decide) ?_
                                                                        refine lv_iadd S.1 S.2.1 dL_law_1126 ?_
                                                                        refine lv_topi (fun y1126 ey1126 => ?_)
                                                                        have hw := hw y1126 ey1126
                                                                        refine va_sld S.1 S.2.1 hX hbl hbA hI.2.2.1 hw.1 dL_law_1127 ?_
                                                                        refine lv_topi (fun y1127 ey1127 => ?_)
                                                                        have hw := hw.2 y1127 ey1127
                                                                        refine lv_aload_n S.1 S.2.1 dL_law_1128 rfl (lv_at hl 0 rfl) ?_
                                                                        refine lv_iload_n S.1 S.2.1 dL_law_1129 rfl (lv_at hl 3 rfl) ?_
                                                                        refine lv_iconst (v := 3) S.1 S.2.1 dL_law_1130 (by decide) ?_
                                                                        refine lv_iadd S.1 S.2.1 dL_law_1131 ?_
                                                                        refine lv_topi (fun y1131 ey1131 => ?_)
                                                                        have hw := hw y1131 ey1131
                                                                        refine va_sld S.1 S.2.1 hX hbl hbA hI.2.2.1 hw.1 dL_law_1132 ?_
                                                                        refine lv_topi (fun y1132 ey1132 => ?_)
                                                                        have hw := hw.2 y1132 ey1132
                                                                        refine m_vi (cf := fun v => VL h r q cs (embT u v)) (As := [.int y1122, .int y1127, .int y1132]) (rest := []) S (VL_T h r q cs u) hI (by rw [embT_self]) (c_X11_row l D h r q cs y1122 y1127 y1132 u _ hw) (cwV 3 S.2.2.2.2 gT_X11_row rfl rfl rfl (by decide +kernel) ⟨Nat.le_of_ble_eq_true rfl, Nat.le_of_ble_eq_true rfl⟩) (VT_o0 h r q cs u) rfl rfl hl.1 rfl (Nat.le_of_ble_eq_true rfl) dL_law_1133 ⟨Nat.le_of_ble_eq_true rfl, Nat.le_of_ble_eq_true rfl⟩ (fun y1133 v1133 H locs hw hI => ?_)
                                                                        obtain ⟨u1133, eu1133⟩ : ∃ z : CS, z = embT u v1133 := ⟨_, rfl⟩
                                                                        have hw := hw u1133 eu1133
                                                                        replace hI : mI D (mT cs) (fun q : Nat => s.heap.size ≤ q) s.heap s (VL h r q cs u1133) H locs := by rw [eu1133]; exact hI
                                                                        refine lv_aload_n S.1 S.2.1 dL_law_1136 rfl (lv_at hl 2 rfl) ?_
                                                                        refine lv_aload_n S.1 S.2.1 dL_law_1137 rfl (lv_at hl 0 rfl) ?_
                                                                        refine lv_iload_n S.1 S.2.1 dL_law_1138 rfl (lv_at hl 3 rfl) ?_
                                                                        refine lv_iconst (v := 1) S.1 S.2.1 dL_law_1139 (by decide) ?_
                                                                        refine lv_iadd S.1 S.2.1 dL_law_1140 ?_
                                                                        refine lv_topi (fun y1140 ey1140 => ?_)
                                                                        have hw := hw y1140 ey1140
                                                                        refine va_sld S.1 S.2.1 hX hbl hbA hI.2.2.1 hw.1 dL_law_1141 ?_
                                                                        refine lv_topi (fun y1141 ey1141 => ?_)
                                                                        have hw := hw.2 y1141 ey1141
                                                                        refine lv_aload_n S.1 S.2.1 dL_law_1142 rfl (lv_at hl 0 rfl) ?_
                                                                        refine lv_iload_n S.1 S.2.1 dL_law_1143 rfl (lv_at hl 3 rfl) ?_
                                                                        refine lv_iconst (v := 2) S.1 S.2.1 dL_law_1144 (by decide) ?_
                                                                        refine lv_iadd S.1 S.2.1 dL_law_1145 ?_
                                                                        refine lv_topi (fun y1145 ey1145 => ?_)
                                                                        have hw := hw y1145 ey1145
                                                                        refine va_sld S.1 S.2.1 hX hbl hbA hI.2.2.1 hw.1 dL_law_1146 ?_
                                                                        refine lv_topi (fun y1146 ey1146 => ?_)
                                                                        have hw := hw.2 y1146 ey1146
                                                                        refine lv_aload_n S.1 S.2.1 dL_law_1147 rfl (lv_at hl 0 rfl) ?_
                                                                        refine lv_iload_n S.1 S.2.1 dL_law_1148 rfl (lv_at hl 3 rfl) ?_
                                                                        refine lv_iconst (v := 3) S.1 S.2.1 dL_law_1149 (by decide) ?_
                                                                        refine lv_iadd S.1 S.2.1 dL_law_1150 ?_
                                                                        refine lv_topi (fun y1150 ey1150 => ?_)
                                                                        have hw := hw y1150 ey1150
                                                                        refine va_sld S.1 S.2.1 hX hbl hbA hI.2.2.1 hw.1 dL_law_1151 ?_
                                                                        refine lv_topi (fun y1151 ey1151 => ?_)
                                                                        have hw := hw.2 y1151 ey1151
                                                                        refine m_vi (cf := fun v => VL h r q cs (mu u1133 25 v)) (As := [.int y1141, .int y1146, .int y1151]) (rest := [.int y1133]) S (VL_c25 h r q cs u1133) hI (by rw [mu_self]) (c_X12_row l D (h 25) (r 25) cs y1141 y1146 y1151 (u1133 25) _ hw) (cwV 3 S.2.2.2.2 gT_X12_row rfl rfl rfl (by decide +kernel) ⟨Nat.le_of_ble_eq_true rfl, Nat.le_of_ble_eq_true rfl⟩) (W12_at0 _ _ _ _) rfl rfl hl.1 rfl (Nat.le_of_ble_eq_true rfl) dL_law_1152 ⟨Nat.le_of_ble_eq_true rfl, Nat.le_of_ble_eq_true rfl⟩ (fun y1152 v1152 H locs hw hI => ?_)
                                                                        obtain ⟨u1152, eu1152⟩ : ∃ z : CS, z = mu u1133 25 v1152 := ⟨_, rfl⟩
                                                                        have hw := hw u1152 eu1152
                                                                        replace hI : mI D (mT cs) (fun q : Nat => s.heap.size ≤ q) s.heap s (VL h r q cs u1152) H locs := by rw [eu1152]; exact hI
                                                                        refine lv_icmp_eq (tgt := 1386) S.1 S.2.1 dL_law_1155 (by decide) (fun c1155 => ?_) (fun c1155 => ?_)
                                                                        · have hw := hw.1 c1155
                                                                          exact b1386 B18 hB18 x3 u1152 hw H locs ls hI (lv_sub hl [0, 1, 2, 3] rfl)
                                                                        · have hw := hw.2 c1155
                                                                          refine lv_iconst (v := 0) S.1 S.2.1 dL_law_1158 (by decide) ?_
                                                                          rw [hQ] at hw
                                                                          first
                                                                            | exact absurd (show (0 : Int32) = 1 from hw.2) (by decide)
                                                                            | (refine va_forget (fun q hq => hI.2.2.1.2.2 q hq) ?_; exact lw_ret hx hb hr hlocks dL_law_1159)
                                                                      · have hw := hw.2 c33_32
                                                                        by_cases c33_33 : y32 = 33
                                                                        · have hw := hw.1 c33_33
                                                                          refine lv_tableIn (tgt := 1160) S.1 S.2.1 dL_law_33 (by rw [c33_33] <;> decide) (by rw [c33_33] <;> decide) (by rw [c33_33] <;> rfl) (by decide) ?_
                                                                          refine lv_aload_n S.1 S.2.1 dL_law_1160 rfl (lv_at hl 1 rfl) ?_
                                                                          refine lv_aload_n S.1 S.2.1 dL_law_1161 rfl (lv_at hl 0 rfl) ?_
                                                                          refine lv_iload_n S.1 S.2.1 dL_law_1162 rfl (lv_at hl 3 rfl) ?_
                                                                          refine lv_iconst (v := 1) S.1 S.2.1 dL_law_1163 (by decide) ?_
                                                                          refine lv_iadd S.1 S.2.1 dL_law_1164 ?_
                                                                          refine lv_topi (fun y1164 ey1164 => ?_)
                                                                          have hw := hw y1164 ey1164
                                                                          refine va_sld S.1 S.2.1 hX hbl hbA hI.2.2.1 hw.1 dL_law_1165 ?_
                                                                          refine lv_topi (fun y1165 ey1165 => ?_)
                                                                          have hw := hw.2 y1165 ey1165
                                                                          refine lv_aload_n S.1 S.2.1 dL_law_1166 rfl (lv_at hl 0 rfl) ?_
                                                                          refine lv_iload_n S.1 S.2.1 dL_law_1167 rfl (lv_at hl 3 rfl) ?_
                                                                          refine lv_iconst (v := 2) S.1 S.2.1 dL_law_1168 (by decide) ?_
                                                                          refine lv_iadd S.1 S.2.1 dL_law_1169 ?_
                                                                          refine lv_topi (fun y1169 ey1169 => ?_)
                                                                          have hw := hw y1169 ey1169
                                                                          refine va_sld S.1 S.2.1 hX hbl hbA hI.2.2.1 hw.1 dL_law_1170 ?_
                                                                          refine lv_topi (fun y1170 ey1170 => ?_)
                                                                          have hw := hw.2 y1170 ey1170
                                                                          refine lv_aload_n S.1 S.2.1 dL_law_1171 rfl (lv_at hl 0 rfl) ?_
                                                                          refine lv_iload_n S.1 S.2.1 dL_law_1172 rfl (lv_at hl 3 rfl) ?_
                                                                          refine lv_iconst (v := 3) S.1 S.2.1 dL_law_1173 (by decide) ?_
                                                                          refine lv_iadd S.1 S.2.1 dL_law_1174 ?_
                                                                          refine lv_topi (fun y1174 ey1174 => ?_)
                                                                          have hw := hw y1174 ey1174
                                                                          refine va_sld S.1 S.2.1 hX hbl hbA hI.2.2.1 hw.1 dL_law_1175 ?_
                                                                          refine lv_topi (fun y1175 ey1175 => ?_)
                                                                          have hw := hw.2 y1175 ey1175
                                                                          refine lv_i2l S.1 S.2.1 dL_law_1176 rfl ?_
                                                                          refine lv_topl (fun y1176 ey1176 => ?_)
                                                                          have hw := hw y1176 ey1176
                                                                          refine lv_bipush (v := 32) S.1 S.2.1 dL_law_1177 (by decide) ?_
                                                                          refine lv_lshl S.1 S.2.1 dL_law_1179 rfl ?_
                                                                          refine lv_topl (fun y1179 ey1179 => ?_)
                                                                          have hw := hw y1179 ey1179
                                                                          refine lv_aload_n S.1 S.2.1 dL_law_1180 rfl (lv_at hl 0 rfl) ?_
                                                                          refine lv_iload_n S.1 S.2.1 dL_law_1181 rfl (lv_at hl 3 rfl) ?_
                                                                          refine lv_iconst (v := 4) S.1 S.2.1 dL_law_1182 (by decide) ?_
                                                                          refine lv_iadd S.1 S.2.1 dL_law_1183 ?_
                                                                          refine lv_topi (fun y1183 ey1183 => ?_)
                                                                          have hw := hw y1183 ey1183
                                                                          refine va_sld S.1 S.2.1 hX hbl hbA hI.2.2.1 hw.1 dL_law_1184 ?_
                                                                          refine lv_topi (fun y1184 ey1184 => ?_)
                                                                          have hw := hw.2 y1184 ey1184
                                                                          refine lv_i2l S.1 S.2.1 dL_law_1185 rfl ?_
                                                                          refine lv_topl (fun y1185 ey1185 => ?_)
                                                                          have hw := hw y1185 ey1185
                                                                          refine lv_ldc2 S.1 S.2.1 S.2.2.2.1 (S.2.2.2.2 _ tb_1629) dL_law_1186 ?_
                                                                          refine lv_land S.1 S.2.1 dL_law_1189 ?_
                                                                          refine lv_topl (fun y1189 ey1189 => ?_)
                                                                          have hw := hw y1189 ey1189
                                                                          refine lv_lor S.1 S.2.1 dL_law_1190 ?_
                                                                          refine lv_topl (fun y1190 ey1190 => ?_)
                                                                          have hw := hw y1190 ey1190
                                                                          refine m_vi (cf := fun v => VL h r q cs (embT u v)) (As := [.int y1165, .int y1170, .long y1190]) (rest := []) S (VL_T h r q cs u) hI (by rw [embT_self]) (c_X11_put l D h r q cs y1165 y1170 y1190 u _ hw) (cwV 3 S.2.2.2.2 gT_X11_put rfl rfl rfl (by decide +kernel) ⟨Nat.le_of_ble_eq_true rfl, Nat.le_of_ble_eq_true rfl⟩) (VT_o0 h r q cs u) rfl rfl hl.1 rfl (Nat.le_of_ble_eq_true rfl) dL_law_1191 ⟨Nat.le_of_ble_eq_true rfl, Nat.le_of_ble_eq_true rfl⟩ (fun y1191 v1191 H locs hw hI => ?_)
                                                                          obtain ⟨u1191, eu1191⟩ : ∃ z : CS, z = embT u v1191 := ⟨_, rfl⟩
                                                                          have hw := hw u1191 eu1191
                                                                          replace hI : mI D (mT cs) (fun q : Nat => s.heap.size ≤ q) s.heap s (VL h r q cs u1191) H locs := by rw [eu1191]; exact hI
                                                                          refine lv_aload_n S.1 S.2.1 dL_law_1194 rfl (lv_at hl 2 rfl) ?_
                                                                          refine lv_aload_n S.1 S.2.1 dL_law_1195 rfl (lv_at hl 0 rfl) ?_
                                                                          refine lv_iload_n S.1 S.2.1 dL_law_1196 rfl (lv_at hl 3 rfl) ?_
                                                                          refine lv_iconst (v := 1) S.1 S.2.1 dL_law_1197 (by decide) ?_
                                                                          refine lv_iadd S.1 S.2.1 dL_law_1198 ?_
                                                                          refine lv_topi (fun y1198 ey1198 => ?_)
                                                                          have hw := hw y1198 ey1198
                                                                          refine va_sld S.1 S.2.1 hX hbl hbA hI.2.2.1 hw.1 dL_law_1199 ?_
                                                                          refine lv_topi (fun y1199 ey1199 => ?_)
                                                                          have hw := hw.2 y1199 ey1199
                                                                          refine lv_aload_n S.1 S.2.1 dL_law_1200 rfl (lv_at hl 0 rfl) ?_
                                                                          refine lv_iload_n S.1 S.2.1 dL_law_1201 rfl (lv_at hl 3 rfl) ?_
                                                                          refine lv_iconst (v := 2) S.1 S.2.1 dL_law_1202 (by decide) ?_
                                                                          refine lv_iadd S.1 S.2.1 dL_law_1203 ?_
                                                                          refine lv_topi (fun y1203 ey1203 => ?_)
                                                                          have hw := hw y1203 ey1203
                                                                          refine va_sld S.1 S.2.1 hX hbl hbA hI.2.2.1 hw.1 dL_law_1204 ?_
                                                                          refine lv_topi (fun y1204 ey1204 => ?_)
                                                                          have hw := hw.2 y1204 ey1204
                                                                          refine lv_aload_n S.1 S.2.1 dL_law_1205 rfl (lv_at hl 0 rfl) ?_
                                                                          refine lv_iload_n S.1 S.2.1 dL_law_1206 rfl (lv_at hl 3 rfl) ?_
                                                                          refine lv_iconst (v := 3) S.1 S.2.1 dL_law_1207 (by decide) ?_
                                                                          refine lv_iadd S.1 S.2.1 dL_law_1208 ?_
                                                                          refine lv_topi (fun y1208 ey1208 => ?_)
                                                                          have hw := hw y1208 ey1208
                                                                          refine va_sld S.1 S.2.1 hX hbl hbA hI.2.2.1 hw.1 dL_law_1209 ?_
                                                                          refine lv_topi (fun y1209 ey1209 => ?_)
                                                                          have hw := hw.2 y1209 ey1209
                                                                          refine lv_i2l S.1 S.2.1 dL_law_1210 rfl ?_
                                                                          refine lv_topl (fun y1210 ey1210 => ?_)
                                                                          have hw := hw y1210 ey1210
                                                                          refine lv_bipush (v := 32) S.1 S.2.1 dL_law_1211 (by decide) ?_
                                                                          refine lv_lshl S.1 S.2.1 dL_law_1213 rfl ?_
                                                                          refine lv_topl (fun y1213 ey1213 => ?_)
                                                                          have hw := hw y1213 ey1213
                                                                          refine lv_aload_n S.1 S.2.1 dL_law_1214 rfl (lv_at hl 0 rfl) ?_
                                                                          refine lv_iload_n S.1 S.2.1 dL_law_1215 rfl (lv_at hl 3 rfl) ?_
                                                                          refine lv_iconst (v := 4) S.1 S.2.1 dL_law_1216 (by decide) ?_
                                                                          refine lv_iadd S.1 S.2.1 dL_law_1217 ?_
                                                                          refine lv_topi (fun y1217 ey1217 => ?_)
                                                                          have hw := hw y1217 ey1217
                                                                          refine va_sld S.1 S.2.1 hX hbl hbA hI.2.2.1 hw.1 dL_law_1218 ?_
                                                                          refine lv_topi (fun y1218 ey1218 => ?_)
                                                                          have hw := hw.2 y1218 ey1218
                                                                          refine lv_i2l S.1 S.2.1 dL_law_1219 rfl ?_
                                                                          refine lv_topl (fun y1219 ey1219 => ?_)
                                                                          have hw := hw y1219 ey1219
                                                                          refine lv_ldc2 S.1 S.2.1 S.2.2.2.1 (S.2.2.2.2 _ tb_1629) dL_law_1220 ?_
                                                                          refine lv_land S.1 S.2.1 dL_law_1223 ?_
                                                                          refine lv_topl (fun y1223 ey1223 => ?_)
                                                                          have hw := hw y1223 ey1223
                                                                          refine lv_lor S.1 S.2.1 dL_law_1224 ?_
                                                                          refine lv_topl (fun y1224 ey1224 => ?_)
                                                                          have hw := hw y1224 ey1224
                                                                          refine m_vi (cf := fun v => VL h r q cs (mu u1191 25 v)) (As := [.int y1199, .int y1204, .long y1224]) (rest := [.int y1191]) S (VL_c25 h r q cs u1191) hI (by rw [mu_self]) (c_X12_put l D (h 25) (r 25) cs y1199 y1204 y1224 (u1191 25) _ hw) (cwV 3 S.2.2.2.2 gT_X12_put rfl rfl rfl (by decide +kernel) ⟨Nat.le_of_ble_eq_true rfl, Nat.le_of_ble_eq_true rfl⟩) (W12_at0 _ _ _ _) rfl rfl hl.1 rfl (Nat.le_of_ble_eq_true rfl) dL_law_1225 ⟨Nat.le_of_ble_eq_true rfl, Nat.le_of_ble_eq_true rfl⟩ (fun y1225 v1225 H locs hw hI => ?_)
                                                                          obtain ⟨u1225, eu1225⟩ : ∃ z : CS, z = mu u1191 25 v1225 := ⟨_, rfl⟩
                                                                          have hw := hw u1225 eu1225
                                                                          replace hI : mI D (mT cs) (fun q : Nat => s.heap.size ≤ q) s.heap s (VL h r q cs u1225) H locs := by rw [eu1225]; exact hI
                                                                          refine lv_icmp_eq (tgt := 1386) S.1 S.2.1 dL_law_1228 (by decide) (fun c1228 => ?_) (fun c1228 => ?_)
                                                                          · have hw := hw.1 c1228
                                                                            exact b1386 B18 hB18 x3 u1225 hw H locs ls hI (lv_sub hl [0, 1, 2, 3] rfl)
                                                                          · have hw := hw.2 c1228
                                                                            refine lv_iconst (v := 0) S.1 S.2.1 dL_law_1231 (by decide) ?_
                                                                            rw [hQ] at hw
                                                                            first
                                                                              | exact absurd (show (0 : Int32) = 1 from hw.2) (by decide)
                                                                              | (refine va_forget (fun q hq => hI.2.2.1.2.2 q hq) ?_; exact lw_ret hx hb hr hlocks dL_law_1232)
                                                                        · have hw := hw.2 c33_33
                                                                          by_cases c33_34 : y32 = 34
                                                                          · have hw := hw.1 c33_34
                                                                            refine lv_tableIn (tgt := 1233) S.1 S.2.1 dL_law_33 (by rw [c33_34] <;> decide) (by rw [c33_34] <;> decide) (by rw [c33_34] <;> rfl) (by decide) ?_
                                                                            refine lv_aload_n S.1 S.2.1 dL_law_1233 rfl (lv_at hl 1 rfl) ?_
                                                                            refine lv_aload_n S.1 S.2.1 dL_law_1234 rfl (lv_at hl 0 rfl) ?_
                                                                            refine lv_iload_n S.1 S.2.1 dL_law_1235 rfl (lv_at hl 3 rfl) ?_
                                                                            refine lv_iconst (v := 1) S.1 S.2.1 dL_law_1236 (by decide) ?_
                                                                            refine lv_iadd S.1 S.2.1 dL_law_1237 ?_
                                                                            refine lv_topi (fun y1237 ey1237 => ?_)
                                                                            have hw := hw y1237 ey1237
                                                                            refine va_sld S.1 S.2.1 hX hbl hbA hI.2.2.1 hw.1 dL_law_1238 ?_
                                                                            refine lv_topi (fun y1238 ey1238 => ?_)
                                                                            have hw := hw.2 y1238 ey1238
                                                                            refine lv_aload_n S.1 S.2.1 dL_law_1239 rfl (lv_at hl 0 rfl) ?_
                                                                            refine lv_iload_n S.1 S.2.1 dL_law_1240 rfl (lv_at hl 3 rfl) ?_
                                                                            refine lv_iconst (v := 2) S.1 S.2.1 dL_law_1241 (by decide) ?_
                                                                            refine lv_iadd S.1 S.2.1 dL_law_1242 ?_
                                                                            refine lv_topi (fun y1242 ey1242 => ?_)
                                                                            have hw := hw y1242 ey1242
                                                                            refine va_sld S.1 S.2.1 hX hbl hbA hI.2.2.1 hw.1 dL_law_1243 ?_
                                                                            refine lv_topi (fun y1243 ey1243 => ?_)
                                                                            have hw := hw.2 y1243 ey1243
                                                                            refine m_vl (cf := fun v => VL h r q cs (embT u v)) (As := [.int y1238, .int y1243]) (rest := []) S (VL_T h r q cs u) hI (by rw [embT_self]) (c_X11_element l D h r q cs y1238 y1243 u _ hw) (cwV 2 S.2.2.2.2 gT_X11_element rfl rfl rfl (by decide +kernel) ⟨Nat.le_of_ble_eq_true rfl, Nat.le_of_ble_eq_true rfl⟩) (VT_o0 h r q cs u) rfl rfl hl.1 rfl (Nat.le_of_ble_eq_true rfl) dL_law_1244 ⟨Nat.le_of_ble_eq_true rfl, Nat.le_of_ble_eq_true rfl⟩ (fun y1244 v1244 H locs hw hI => ?_)
                                                                            obtain ⟨u1244, eu1244⟩ : ∃ z : CS, z = embT u v1244 := ⟨_, rfl⟩
                                                                            have hw := hw u1244 eu1244
                                                                            replace hI : mI D (mT cs) (fun q : Nat => s.heap.size ≤ q) s.heap s (VL h r q cs u1244) H locs := by rw [eu1244]; exact hI
                                                                            refine lv_aload_n S.1 S.2.1 dL_law_1247 rfl (lv_at hl 2 rfl) ?_
                                                                            refine lv_aload_n S.1 S.2.1 dL_law_1248 rfl (lv_at hl 0 rfl) ?_
                                                                            refine lv_iload_n S.1 S.2.1 dL_law_1249 rfl (lv_at hl 3 rfl) ?_
                                                                            refine lv_iconst (v := 1) S.1 S.2.1 dL_law_1250 (by decide) ?_
                                                                            refine lv_iadd S.1 S.2.1 dL_law_1251 ?_
                                                                            refine lv_topi (fun y1251 ey1251 => ?_)
                                                                            have hw := hw y1251 ey1251
                                                                            refine va_sld S.1 S.2.1 hX hbl hbA hI.2.2.1 hw.1 dL_law_1252 ?_
                                                                            refine lv_topi (fun y1252 ey1252 => ?_)
                                                                            have hw := hw.2 y1252 ey1252
                                                                            refine lv_aload_n S.1 S.2.1 dL_law_1253 rfl (lv_at hl 0 rfl) ?_
                                                                            refine lv_iload_n S.1 S.2.1 dL_law_1254 rfl (lv_at hl 3 rfl) ?_
                                                                            refine lv_iconst (v := 2) S.1 S.2.1 dL_law_1255 (by decide) ?_
                                                                            refine lv_iadd S.1 S.2.1 dL_law_1256 ?_
                                                                            refine lv_topi (fun y1256 ey1256 => ?_)
                                                                            have hw := hw y1256 ey1256
                                                                            refine va_sld S.1 S.2.1 hX hbl hbA hI.2.2.1 hw.1 dL_law_1257 ?_
                                                                            refine lv_topi (fun y1257 ey1257 => ?_)
                                                                            have hw := hw.2 y1257 ey1257
                                                                            refine m_vl (cf := fun v => VL h r q cs (mu u1244 25 v)) (As := [.int y1252, .int y1257]) (rest := [.long y1244]) S (VL_c25 h r q cs u1244) hI (by rw [mu_self]) (c_X12_element l D (h 25) (r 25) cs y1252 y1257 (u1244 25) _ hw) (cwV 2 S.2.2.2.2 gT_X12_element rfl rfl rfl (by decide +kernel) ⟨Nat.le_of_ble_eq_true rfl, Nat.le_of_ble_eq_true rfl⟩) (W12_at0 _ _ _ _) rfl rfl hl.1 rfl (Nat.le_of_ble_eq_true rfl) dL_law_1258 ⟨Nat.le_of_ble_eq_true rfl, Nat.le_of_ble_eq_true rfl⟩ (fun y1258 v1258 H locs hw hI => ?_)
                                                                            obtain ⟨u1258, eu1258⟩ : ∃ z : CS, z = mu u1244 25 v1258 := ⟨_, rfl⟩
                                                                            have hw := hw u1258 eu1258
                                                                            replace hI : mI D (mT cs) (fun q : Nat => s.heap.size ≤ q) s.heap s (VL h r q cs u1258) H locs := by rw [eu1258]; exact hI
                                                                            refine W.lcmp S.1 S.2.1 dL_law_1261 ?_
                                                                            refine lv_topi (fun y1261 ey1261 => ?_)
                                                                            have hw := hw y1261 ey1261
                                                                            refine lv_if_eq (tgt := 1386) S.1 S.2.1 dL_law_1262 (by decide) (fun c1262 => ?_) (fun c1262 => ?_)
                                                                            · have hw := hw.1 c1262
                                                                              exact b1386 B18 hB18 x3 u1258 hw H locs ls hI (lv_sub hl [0, 1, 2, 3] rfl)
                                                                            · have hw := hw.2 c1262
                                                                              refine lv_iconst (v := 0) S.1 S.2.1 dL_law_1265 (by decide) ?_
                                                                              rw [hQ] at hw
                                                                              first
                                                                                | exact absurd (show (0 : Int32) = 1 from hw.2) (by decide)
                                                                                | (refine va_forget (fun q hq => hI.2.2.1.2.2 q hq) ?_; exact lw_ret hx hb hr hlocks dL_law_1266)
                                                                          · have hw := hw.2 c33_34
                                                                            by_cases c33_35 : y32 = 35
                                                                            · have hw := hw.1 c33_35
                                                                              refine lv_tableIn (tgt := 1267) S.1 S.2.1 dL_law_33 (by rw [c33_35] <;> decide) (by rw [c33_35] <;> decide) (by rw [c33_35] <;> rfl) (by decide) ?_
                                                                              refine lv_aload_n S.1 S.2.1 dL_law_1267 rfl (lv_at hl 1 rfl) ?_
                                                                              refine lv_aload_n S.1 S.2.1 dL_law_1268 rfl (lv_at hl 0 rfl) ?_
                                                                              refine lv_iload_n S.1 S.2.1 dL_law_1269 rfl (lv_at hl 3 rfl) ?_
                                                                              refine lv_iconst (v := 1) S.1 S.2.1 dL_law_1270 (by decide) ?_
                                                                              refine lv_iadd S.1 S.2.1 dL_law_1271 ?_
                                                                              refine lv_topi (fun y1271 ey1271 => ?_)
                                                                              have hw := hw y1271 ey1271
                                                                              refine va_sld S.1 S.2.1 hX hbl hbA hI.2.2.1 hw.1 dL_law_1272 ?_
                                                                              refine lv_topi (fun y1272 ey1272 => ?_)
                                                                              have hw := hw.2 y1272 ey1272
                                                                              refine lv_aload_n S.1 S.2.1 dL_law_1273 rfl (lv_at hl 0 rfl) ?_
                                                                              refine lv_iload_n S.1 S.2.1 dL_law_1274 rfl (lv_at hl 3 rfl) ?_
                                                                              refine lv_iconst (v := 2) S.1 S.2.1 dL_law_1275 (by decide) ?_
                                                                              refine lv_iadd S.1 S.2.1 dL_law_1276 ?_
                                                                              refine lv_topi (fun y1276 ey1276 => ?_)
                                                                              have hw := hw y1276 ey1276
                                                                              refine va_sld S.1 S.2.1 hX hbl hbA hI.2.2.1 hw.1 dL_law_1277 ?_
                                                                              refine lv_topi (fun y1277 ey1277 => ?_)
                                                                              have hw := hw.2 y1277 ey1277
                                                                              refine lv_aload_n S.1 S.2.1 dL_law_1278 rfl (lv_at hl 0 rfl) ?_
                                                                              refine lv_iload_n S.1 S.2.1 dL_law_1279 rfl (lv_at hl 3 rfl) ?_
                                                                              refine lv_iconst (v := 3) S.1 S.2.1 dL_law_1280 (by decide) ?_
                                                                              refine lv_iadd S.1 S.2.1 dL_law_1281 ?_
                                                                              refine lv_topi (fun y1281 ey1281 => ?_)
                                                                              have hw := hw y1281 ey1281
                                                                              refine va_sld S.1 S.2.1 hX hbl hbA hI.2.2.1 hw.1 dL_law_1282 ?_
                                                                              refine lv_topi (fun y1282 ey1282 => ?_)
                                                                              have hw := hw.2 y1282 ey1282
                                                                              refine lv_aload_n S.1 S.2.1 dL_law_1283 rfl (lv_at hl 0 rfl) ?_
                                                                              refine lv_iload_n S.1 S.2.1 dL_law_1284 rfl (lv_at hl 3 rfl) ?_
                                                                              refine lv_iconst (v := 4) S.1 S.2.1 dL_law_1285 (by decide) ?_
                                                                              refine lv_iadd S.1 S.2.1 dL_law_1286 ?_
                                                                              refine lv_topi (fun y1286 ey1286 => ?_)
                                                                              have hw := hw y1286 ey1286
                                                                              refine va_sld S.1 S.2.1 hX hbl hbA hI.2.2.1 hw.1 dL_law_1287 ?_
                                                                              refine lv_topi (fun y1287 ey1287 => ?_)
                                                                              have hw := hw.2 y1287 ey1287
                                                                              refine lv_aload_n S.1 S.2.1 dL_law_1288 rfl (lv_at hl 0 rfl) ?_
                                                                              refine lv_iload_n S.1 S.2.1 dL_law_1289 rfl (lv_at hl 3 rfl) ?_
                                                                              refine lv_iconst (v := 5) S.1 S.2.1 dL_law_1290 (by decide) ?_
                                                                              refine lv_iadd S.1 S.2.1 dL_law_1291 ?_
                                                                              refine lv_topi (fun y1291 ey1291 => ?_)
                                                                              have hw := hw y1291 ey1291
                                                                              refine va_sld S.1 S.2.1 hX hbl hbA hI.2.2.1 hw.1 dL_law_1292 ?_
                                                                              refine lv_topi (fun y1292 ey1292 => ?_)
                                                                              have hw := hw.2 y1292 ey1292
                                                                              refine m_vi (cf := fun v => VL h r q cs (embT u v)) (As := [.int y1272, .int y1277, .int y1282, .int y1287, .int y1292]) (rest := []) S (VL_T h r q cs u) hI (by rw [embT_self]) (c_X11_shift l D h r q cs y1272 y1277 y1282 y1287 y1292 u _ hw) (cwV 5 S.2.2.2.2 gT_X11_shift rfl rfl rfl (by decide +kernel) ⟨Nat.le_of_ble_eq_true rfl, Nat.le_of_ble_eq_true rfl⟩) (VT_o0 h r q cs u) rfl rfl hl.1 rfl (Nat.le_of_ble_eq_true rfl) dL_law_1293 ⟨Nat.le_of_ble_eq_true rfl, Nat.le_of_ble_eq_true rfl⟩ (fun y1293 v1293 H locs hw hI => ?_)
                                                                              obtain ⟨u1293, eu1293⟩ : ∃ z : CS, z = embT u v1293 := ⟨_, rfl⟩
                                                                              have hw := hw u1293 eu1293
                                                                              replace hI : mI D (mT cs) (fun q : Nat => s.heap.size ≤ q) s.heap s (VL h r q cs u1293) H locs := by rw [eu1293]; exact hI
                                                                              refine lv_aload_n S.1 S.2.1 dL_law_1296 rfl (lv_at hl 2 rfl) ?_
                                                                              refine lv_aload_n S.1 S.2.1 dL_law_1297 rfl (lv_at hl 0 rfl) ?_
                                                                              refine lv_iload_n S.1 S.2.1 dL_law_1298 rfl (lv_at hl 3 rfl) ?_
                                                                              refine lv_iconst (v := 1) S.1 S.2.1 dL_law_1299 (by decide) ?_
                                                                              refine lv_iadd S.1 S.2.1 dL_law_1300 ?_
                                                                              refine lv_topi (fun y1300 ey1300 => ?_)
                                                                              have hw := hw y1300 ey1300
                                                                              refine va_sld S.1 S.2.1 hX hbl hbA hI.2.2.1 hw.1 dL_law_1301 ?_
                                                                              refine lv_topi (fun y1301 ey1301 => ?_)
                                                                              have hw := hw.2 y1301 ey1301
                                                                              refine lv_aload_n S.1 S.2.1 dL_law_1302 rfl (lv_at hl 0 rfl) ?_
                                                                              refine lv_iload_n S.1 S.2.1 dL_law_1303 rfl (lv_at hl 3 rfl) ?_
                                                                              refine lv_iconst (v := 2) S.1 S.2.1 dL_law_1304 (by decide) ?_
                                                                              refine lv_iadd S.1 S.2.1 dL_law_1305 ?_
                                                                              refine lv_topi (fun y1305 ey1305 => ?_)
                                                                              have hw := hw y1305 ey1305
                                                                              refine va_sld S.1 S.2.1 hX hbl hbA hI.2.2.1 hw.1 dL_law_1306 ?_
                                                                              refine lv_topi (fun y1306 ey1306 => ?_)
                                                                              have hw := hw.2 y1306 ey1306
                                                                              refine lv_aload_n S.1 S.2.1 dL_law_1307 rfl (lv_at hl 0 rfl) ?_
                                                                              refine lv_iload_n S.1 S.2.1 dL_law_1308 rfl (lv_at hl 3 rfl) ?_
                                                                              refine lv_iconst (v := 3) S.1 S.2.1 dL_law_1309 (by decide) ?_
                                                                              refine lv_iadd S.1 S.2.1 dL_law_1310 ?_
                                                                              refine lv_topi (fun y1310 ey1310 => ?_)
                                                                              have hw := hw y1310 ey1310
                                                                              refine va_sld S.1 S.2.1 hX hbl hbA hI.2.2.1 hw.1 dL_law_1311 ?_
                                                                              refine lv_topi (fun y1311 ey1311 => ?_)
                                                                              have hw := hw.2 y1311 ey1311
                                                                              refine lv_aload_n S.1 S.2.1 dL_law_1312 rfl (lv_at hl 0 rfl) ?_
                                                                              refine lv_iload_n S.1 S.2.1 dL_law_1313 rfl (lv_at hl 3 rfl) ?_
                                                                              refine lv_iconst (v := 4) S.1 S.2.1 dL_law_1314 (by decide) ?_
                                                                              refine lv_iadd S.1 S.2.1 dL_law_1315 ?_
                                                                              refine lv_topi (fun y1315 ey1315 => ?_)
                                                                              have hw := hw y1315 ey1315
                                                                              refine va_sld S.1 S.2.1 hX hbl hbA hI.2.2.1 hw.1 dL_law_1316 ?_
                                                                              refine lv_topi (fun y1316 ey1316 => ?_)
                                                                              have hw := hw.2 y1316 ey1316
                                                                              refine lv_aload_n S.1 S.2.1 dL_law_1317 rfl (lv_at hl 0 rfl) ?_
                                                                              refine lv_iload_n S.1 S.2.1 dL_law_1318 rfl (lv_at hl 3 rfl) ?_
                                                                              refine lv_iconst (v := 5) S.1 S.2.1 dL_law_1319 (by decide) ?_
                                                                              refine lv_iadd S.1 S.2.1 dL_law_1320 ?_
                                                                              refine lv_topi (fun y1320 ey1320 => ?_)
                                                                              have hw := hw y1320 ey1320
                                                                              refine va_sld S.1 S.2.1 hX hbl hbA hI.2.2.1 hw.1 dL_law_1321 ?_
                                                                              refine lv_topi (fun y1321 ey1321 => ?_)
                                                                              have hw := hw.2 y1321 ey1321
                                                                              refine m_vi (cf := fun v => VL h r q cs (mu u1293 25 v)) (As := [.int y1301, .int y1306, .int y1311, .int y1316, .int y1321]) (rest := [.int y1293]) S (VL_c25 h r q cs u1293) hI (by rw [mu_self]) (c_X12_shift l D (h 25) (r 25) cs y1301 y1306 y1311 y1316 y1321 (u1293 25) _ hw) (cwV 5 S.2.2.2.2 gT_X12_shift rfl rfl rfl (by decide +kernel) ⟨Nat.le_of_ble_eq_true rfl, Nat.le_of_ble_eq_true rfl⟩) (W12_at0 _ _ _ _) rfl rfl hl.1 rfl (Nat.le_of_ble_eq_true rfl) dL_law_1322 ⟨Nat.le_of_ble_eq_true rfl, Nat.le_of_ble_eq_true rfl⟩ (fun y1322 v1322 H locs hw hI => ?_)
                                                                              obtain ⟨u1322, eu1322⟩ : ∃ z : CS, z = mu u1293 25 v1322 := ⟨_, rfl⟩
                                                                              have hw := hw u1322 eu1322
                                                                              replace hI : mI D (mT cs) (fun q : Nat => s.heap.size ≤ q) s.heap s (VL h r q cs u1322) H locs := by rw [eu1322]; exact hI
                                                                              refine lv_icmp_eq (tgt := 1386) S.1 S.2.1 dL_law_1325 (by decide) (fun c1325 => ?_) (fun c1325 => ?_)
                                                                              · have hw := hw.1 c1325
                                                                                exact b1386 B18 hB18 x3 u1322 hw H locs ls hI (lv_sub hl [0, 1, 2, 3] rfl)
                                                                              · have hw := hw.2 c1325
                                                                                refine lv_iconst (v := 0) S.1 S.2.1 dL_law_1328 (by decide) ?_
                                                                                rw [hQ] at hw
                                                                                first
                                                                                  | exact absurd (show (0 : Int32) = 1 from hw.2) (by decide)
                                                                                  | (refine va_forget (fun q hq => hI.2.2.1.2.2 q hq) ?_; exact lw_ret hx hb hr hlocks dL_law_1329)
                                                                            · have hw := hw.2 c33_35
                                                                              by_cases c33_36 : y32 = 36
                                                                              · have hw := hw.1 c33_36
                                                                                refine lv_tableIn (tgt := 1330) S.1 S.2.1 dL_law_33 (by rw [c33_36] <;> decide) (by rw [c33_36] <;> decide) (by rw [c33_36] <;> rfl) (by decide) ?_
                                                                                refine lv_aload_n S.1 S.2.1 dL_law_1330 rfl (lv_at hl 1 rfl) ?_
                                                                                refine lv_aload_n S.1 S.2.1 dL_law_1331 rfl (lv_at hl 0 rfl) ?_
                                                                                refine lv_iload_n S.1 S.2.1 dL_law_1332 rfl (lv_at hl 3 rfl) ?_
                                                                                refine lv_iconst (v := 1) S.1 S.2.1 dL_law_1333 (by decide) ?_
                                                                                refine lv_iadd S.1 S.2.1 dL_law_1334 ?_
                                                                                refine lv_topi (fun y1334 ey1334 => ?_)
                                                                                have hw := hw y1334 ey1334
                                                                                refine va_sld S.1 S.2.1 hX hbl hbA hI.2.2.1 hw.1 dL_law_1335 ?_
                                                                                refine lv_topi (fun y1335 ey1335 => ?_)
                                                                                have hw := hw.2 y1335 ey1335
                                                                                refine lv_aload_n S.1 S.2.1 dL_law_1336 rfl (lv_at hl 0 rfl) ?_
                                                                                refine lv_iload_n S.1 S.2.1 dL_law_1337 rfl (lv_at hl 3 rfl) ?_
                                                                                refine lv_iconst (v := 2) S.1 S.2.1 dL_law_1338 (by decide) ?_
                                                                                refine lv_iadd S.1 S.2.1 dL_law_1339 ?_
                                                                                refine lv_topi (fun y1339 ey1339 => ?_)
                                                                                have hw := hw y1339 ey1339
                                                                                refine va_sld S.1 S.2.1 hX hbl hbA hI.2.2.1 hw.1 dL_law_1340 ?_
                                                                                refine lv_topi (fun y1340 ey1340 => ?_)
                                                                                have hw := hw.2 y1340 ey1340
                                                                                refine m_vi (cf := fun v => VL h r q cs (embT u v)) (As := [.int y1335, .int y1340]) (rest := []) S (VL_T h r q cs u) hI (by rw [embT_self]) (c_X11_taken l D h r q cs y1335 y1340 u _ hw) (cwV 2 S.2.2.2.2 gT_X11_taken rfl rfl rfl (by decide +kernel) ⟨Nat.le_of_ble_eq_true rfl, Nat.le_of_ble_eq_true rfl⟩) (VT_o0 h r q cs u) rfl rfl hl.1 rfl (Nat.le_of_ble_eq_true rfl) dL_law_1341 ⟨Nat.le_of_ble_eq_true rfl, Nat.le_of_ble_eq_true rfl⟩ (fun y1341 v1341 H locs hw hI => ?_)
                                                                                obtain ⟨u1341, eu1341⟩ : ∃ z : CS, z = embT u v1341 := ⟨_, rfl⟩
                                                                                have hw := hw u1341 eu1341
                                                                                replace hI : mI D (mT cs) (fun q : Nat => s.heap.size ≤ q) s.heap s (VL h r q cs u1341) H locs := by rw [eu1341]; exact hI
                                                                                refine lv_aload_n S.1 S.2.1 dL_law_1344 rfl (lv_at hl 2 rfl) ?_
                                                                                refine lv_aload_n S.1 S.2.1 dL_law_1345 rfl (lv_at hl 0 rfl) ?_
                                                                                refine lv_iload_n S.1 S.2.1 dL_law_1346 rfl (lv_at hl 3 rfl) ?_
                                                                                refine lv_iconst (v := 1) S.1 S.2.1 dL_law_1347 (by decide) ?_
                                                                                refine lv_iadd S.1 S.2.1 dL_law_1348 ?_
                                                                                refine lv_topi (fun y1348 ey1348 => ?_)
                                                                                have hw := hw y1348 ey1348
                                                                                refine va_sld S.1 S.2.1 hX hbl hbA hI.2.2.1 hw.1 dL_law_1349 ?_
                                                                                refine lv_topi (fun y1349 ey1349 => ?_)
                                                                                have hw := hw.2 y1349 ey1349
                                                                                refine lv_aload_n S.1 S.2.1 dL_law_1350 rfl (lv_at hl 0 rfl) ?_
                                                                                refine lv_iload_n S.1 S.2.1 dL_law_1351 rfl (lv_at hl 3 rfl) ?_
                                                                                refine lv_iconst (v := 2) S.1 S.2.1 dL_law_1352 (by decide) ?_
                                                                                refine lv_iadd S.1 S.2.1 dL_law_1353 ?_
                                                                                refine lv_topi (fun y1353 ey1353 => ?_)
                                                                                have hw := hw y1353 ey1353
                                                                                refine va_sld S.1 S.2.1 hX hbl hbA hI.2.2.1 hw.1 dL_law_1354 ?_
                                                                                refine lv_topi (fun y1354 ey1354 => ?_)
                                                                                have hw := hw.2 y1354 ey1354
                                                                                refine m_vi (cf := fun v => VL h r q cs (mu u1341 25 v)) (As := [.int y1349, .int y1354]) (rest := [.int y1341]) S (VL_c25 h r q cs u1341) hI (by rw [mu_self]) (c_X12_taken l D (h 25) (r 25) cs y1349 y1354 (u1341 25) _ hw) (cwV 2 S.2.2.2.2 gT_X12_taken rfl rfl rfl (by decide +kernel) ⟨Nat.le_of_ble_eq_true rfl, Nat.le_of_ble_eq_true rfl⟩) (W12_at0 _ _ _ _) rfl rfl hl.1 rfl (Nat.le_of_ble_eq_true rfl) dL_law_1355 ⟨Nat.le_of_ble_eq_true rfl, Nat.le_of_ble_eq_true rfl⟩ (fun y1355 v1355 H locs hw hI => ?_)
                                                                                obtain ⟨u1355, eu1355⟩ : ∃ z : CS, z = mu u1341 25 v1355 := ⟨_, rfl⟩
                                                                                have hw := hw u1355 eu1355
                                                                                replace hI : mI D (mT cs) (fun q : Nat => s.heap.size ≤ q) s.heap s (VL h r q cs u1355) H locs := by rw [eu1355]; exact hI
                                                                                refine lv_icmp_eq (tgt := 1386) S.1 S.2.1 dL_law_1358 (by decide) (fun c1358 => ?_) (fun c1358 => ?_)
                                                                                · have hw := hw.1 c1358
                                                                                  exact b1386 B18 hB18 x3 u1355 hw H locs ls hI (lv_sub hl [0, 1, 2, 3] rfl)
                                                                                · have hw := hw.2 c1358
                                                                                  refine lv_iconst (v := 0) S.1 S.2.1 dL_law_1361 (by decide) ?_
                                                                                  rw [hQ] at hw
                                                                                  first
                                                                                    | exact absurd (show (0 : Int32) = 1 from hw.2) (by decide)
                                                                                    | (refine va_forget (fun q hq => hI.2.2.1.2.2 q hq) ?_; exact lw_ret hx hb hr hlocks dL_law_1362)
                                                                              · have hw := hw.2 c33_36
                                                                                by_cases c33_37 : y32 = 37
                                                                                · have hw := hw.1 c33_37
                                                                                  refine lv_tableIn (tgt := 1363) S.1 S.2.1 dL_law_33 (by rw [c33_37] <;> decide) (by rw [c33_37] <;> decide) (by rw [c33_37] <;> rfl) (by decide) ?_
                                                                                  refine lv_aload_n S.1 S.2.1 dL_law_1363 rfl (lv_at hl 1 rfl) ?_
                                                                                  refine lv_aload_n S.1 S.2.1 dL_law_1364 rfl (lv_at hl 0 rfl) ?_
                                                                                  refine lv_iload_n S.1 S.2.1 dL_law_1365 rfl (lv_at hl 3 rfl) ?_
                                                                                  refine lv_iconst (v := 1) S.1 S.2.1 dL_law_1366 (by decide) ?_
                                                                                  refine lv_iadd S.1 S.2.1 dL_law_1367 ?_
                                                                                  refine lv_topi (fun y1367 ey1367 => ?_)
                                                                                  have hw := hw y1367 ey1367
                                                                                  refine va_sld S.1 S.2.1 hX hbl hbA hI.2.2.1 hw.1 dL_law_1368 ?_
                                                                                  refine lv_topi (fun y1368 ey1368 => ?_)
                                                                                  have hw := hw.2 y1368 ey1368
                                                                                  refine m_vi (cf := fun v => VL h r q cs (embT u v)) (As := [.int y1368]) (rest := []) S (VL_T h r q cs u) hI (by rw [embT_self]) (c_X11_count l D h r q cs y1368 u _ hw) (cwV 1 S.2.2.2.2 gT_X11_count rfl rfl rfl (by decide +kernel) ⟨Nat.le_of_ble_eq_true rfl, Nat.le_of_ble_eq_true rfl⟩) (VT_o0 h r q cs u) rfl rfl hl.1 rfl (Nat.le_of_ble_eq_true rfl) dL_law_1369 ⟨Nat.le_of_ble_eq_true rfl, Nat.le_of_ble_eq_true rfl⟩ (fun y1369 v1369 H locs hw hI => ?_)
                                                                                  obtain ⟨u1369, eu1369⟩ : ∃ z : CS, z = embT u v1369 := ⟨_, rfl⟩
                                                                                  have hw := hw u1369 eu1369
                                                                                  replace hI : mI D (mT cs) (fun q : Nat => s.heap.size ≤ q) s.heap s (VL h r q cs u1369) H locs := by rw [eu1369]; exact hI
                                                                                  refine lv_aload_n S.1 S.2.1 dL_law_1372 rfl (lv_at hl 2 rfl) ?_
                                                                                  refine lv_aload_n S.1 S.2.1 dL_law_1373 rfl (lv_at hl 0 rfl) ?_
                                                                                  refine lv_iload_n S.1 S.2.1 dL_law_1374 rfl (lv_at hl 3 rfl) ?_
                                                                                  refine lv_iconst (v := 1) S.1 S.2.1 dL_law_1375 (by decide) ?_
                                                                                  refine lv_iadd S.1 S.2.1 dL_law_1376 ?_
                                                                                  refine lv_topi (fun y1376 ey1376 => ?_)
                                                                                  have hw := hw y1376 ey1376
                                                                                  refine va_sld S.1 S.2.1 hX hbl hbA hI.2.2.1 hw.1 dL_law_1377 ?_
                                                                                  refine lv_topi (fun y1377 ey1377 => ?_)
                                                                                  have hw := hw.2 y1377 ey1377
                                                                                  refine m_vi (cf := fun v => VL h r q cs (mu u1369 25 v)) (As := [.int y1377]) (rest := [.int y1369]) S (VL_c25 h r q cs u1369) hI (by rw [mu_self]) (c_X12_count l D (h 25) (r 25) cs y1377 (u1369 25) _ hw) (cwV 1 S.2.2.2.2 gT_X12_count rfl rfl rfl (by decide +kernel) ⟨Nat.le_of_ble_eq_true rfl, Nat.le_of_ble_eq_true rfl⟩) (W12_at0 _ _ _ _) rfl rfl hl.1 rfl (Nat.le_of_ble_eq_true rfl) dL_law_1378 ⟨Nat.le_of_ble_eq_true rfl, Nat.le_of_ble_eq_true rfl⟩ (fun y1378 v1378 H locs hw hI => ?_)
                                                                                  obtain ⟨u1378, eu1378⟩ : ∃ z : CS, z = mu u1369 25 v1378 := ⟨_, rfl⟩
                                                                                  have hw := hw u1378 eu1378
                                                                                  replace hI : mI D (mT cs) (fun q : Nat => s.heap.size ≤ q) s.heap s (VL h r q cs u1378) H locs := by rw [eu1378]; exact hI
                                                                                  refine lv_icmp_eq (tgt := 1386) S.1 S.2.1 dL_law_1381 (by decide) (fun c1381 => ?_) (fun c1381 => ?_)
                                                                                  · have hw := hw.1 c1381
                                                                                    exact b1386 B18 hB18 x3 u1378 hw H locs ls hI (lv_sub hl [0, 1, 2, 3] rfl)
                                                                                  · have hw := hw.2 c1381
                                                                                    refine lv_iconst (v := 0) S.1 S.2.1 dL_law_1384 (by decide) ?_
                                                                                    rw [hQ] at hw
                                                                                    first
                                                                                      | exact absurd (show (0 : Int32) = 1 from hw.2) (by decide)
                                                                                      | (refine va_forget (fun q hq => hI.2.2.1.2.2 q hq) ?_; exact lw_ret hx hb hr hlocks dL_law_1385)
                                                                                · have hw := hw.2 c33_37
                                                                                  by_cases q33 : y32.toInt < 0 ∨ 37 < y32.toInt
                                                                                  · refine lv_tableOut (tgt := 1386) S.1 S.2.1 dL_law_33 q33 (by decide) ?_
                                                                                    exact b1386 B18 hB18 x3 u hw H locs ls hI (lv_sub hl [0, 1, 2, 3] rfl)
                                                                                  · have n33_0 := lv_neT c33_0 (a := 0) rfl
                                                                                    have n33_1 := lv_neT c33_1 (a := 1) rfl
                                                                                    have n33_2 := lv_neT c33_2 (a := 2) rfl
                                                                                    have n33_3 := lv_neT c33_3 (a := 3) rfl
                                                                                    have n33_4 := lv_neT c33_4 (a := 4) rfl
                                                                                    have n33_5 := lv_neT c33_5 (a := 5) rfl
                                                                                    have n33_6 := lv_neT c33_6 (a := 6) rfl
                                                                                    have n33_7 := lv_neT c33_7 (a := 7) rfl
                                                                                    have n33_8 := lv_neT c33_8 (a := 8) rfl
                                                                                    have n33_9 := lv_neT c33_9 (a := 9) rfl
                                                                                    have n33_10 := lv_neT c33_10 (a := 10) rfl
                                                                                    have n33_11 := lv_neT c33_11 (a := 11) rfl
                                                                                    have n33_12 := lv_neT c33_12 (a := 12) rfl
                                                                                    have n33_13 := lv_neT c33_13 (a := 13) rfl
                                                                                    have n33_14 := lv_neT c33_14 (a := 14) rfl
                                                                                    have n33_15 := lv_neT c33_15 (a := 15) rfl
                                                                                    have n33_16 := lv_neT c33_16 (a := 16) rfl
                                                                                    have n33_17 := lv_neT c33_17 (a := 17) rfl
                                                                                    have n33_18 := lv_neT c33_18 (a := 18) rfl
                                                                                    have n33_19 := lv_neT c33_19 (a := 19) rfl
                                                                                    have n33_20 := lv_neT c33_20 (a := 20) rfl
                                                                                    have n33_21 := lv_neT c33_21 (a := 21) rfl
                                                                                    have n33_22 := lv_neT c33_22 (a := 22) rfl
                                                                                    have n33_23 := lv_neT c33_23 (a := 23) rfl
                                                                                    have n33_24 := lv_neT c33_24 (a := 24) rfl
                                                                                    have n33_25 := lv_neT c33_25 (a := 25) rfl
                                                                                    have n33_26 := lv_neT c33_26 (a := 26) rfl
                                                                                    have n33_27 := lv_neT c33_27 (a := 27) rfl
                                                                                    have n33_28 := lv_neT c33_28 (a := 28) rfl
                                                                                    have n33_29 := lv_neT c33_29 (a := 29) rfl
                                                                                    have n33_30 := lv_neT c33_30 (a := 30) rfl
                                                                                    have n33_31 := lv_neT c33_31 (a := 31) rfl
                                                                                    have n33_32 := lv_neT c33_32 (a := 32) rfl
                                                                                    have n33_33 := lv_neT c33_33 (a := 33) rfl
                                                                                    have n33_34 := lv_neT c33_34 (a := 34) rfl
                                                                                    have n33_35 := lv_neT c33_35 (a := 35) rfl
                                                                                    have n33_36 := lv_neT c33_36 (a := 36) rfl
                                                                                    have n33_37 := lv_neT c33_37 (a := 37) rfl
                                                                                    omega
  have b18 : ∀ (x3 : Int32) (u : CS), wp_L_law_p18 L xs x3 u Q → mGoL p l e s m b below meth c D cs h r q 18 [(0, .ref b), (1, .ref (h 0)), (2, .ref (h 25)), (3, .int x3)] [] u := by
    intro x3 u hw
    obtain ⟨I, μ, h0, hs⟩ := hw
    have key : ∀ (n : Nat) (x3 : Int32) (u : CS), μ x3 u = n → I x3 u → mGoL p l e s m b below meth c D cs h r q 18 [(0, .ref b), (1, .ref (h 0)), (2, .ref (h 25)), (3, .int x3)] [] u := by
      intro n
      induction n using Nat.strongRecOn with
      | ind n ih =>
        intro x3 u hn hi
        exact b18b (fun yx3 yu => I yx3 yu ∧ μ yx3 yu < μ x3 u) (fun yx3 yu hb => ih _ (hn ▸ hb.2) yx3 yu rfl hb.1) x3 u (hs x3 u hi)
    exact key _ x3 u rfl h0
  exact b18 x3 U hw

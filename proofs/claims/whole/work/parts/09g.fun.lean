/-! ===== methods as functions ===== -/
def f_L_law_j469 (k18 : Int32 → MH → Option (Int32 × MH)) (L : Nat) (xs : Nat → Int32) (h : MH) (a1 : Nat) (a2 : Nat) (x3 : Int32) (xs0 : Int32) (xs1 : Int32) (as2 : Nat) (xs3 : Int32) : Option (Int32 × MH) := (f_X10_copy h as2 xs1 xs0).bind fun r469 => (if xs3 = r469.1 then (k18 (x3 + (7 : Int32)) r469.2) else (some ((0 : Int32), r469.2)))
set_option maxRecDepth 20000 in
theorem j_L_law_469 {G : GG} {k18 : Int32 → MH → Option (Int32 × MH)} {h : MH} {a1 : Nat} {a2 : Nat} {x3 : Int32} {xs0 : Int32} {xs1 : Int32} {as2 : Nat} {xs3 : Int32} {r : (Int32 × MH)} (hk18 : ∀ (x3z : Int32) (hz : MH) (r : (Int32 × MH)), k18 x3z hz = some r → Ev G 13 M_L_law 18 [some (.long 0), some (.ref a1), some (.ref a2), some (.int x3z)] [] hz (some (.int r.1)) r.2) (hf : f_L_law_j469 k18 (gg_L G) (gg_x G) h a1 a2 x3 xs0 xs1 as2 xs3 = some r) : Ev G 13 M_L_law 469 [some (.long 0), some (.ref a1), some (.ref a2), some (.int x3)] [.int xs0, .int xs1, .ref as2, .int xs3] h (some (.int r.1)) r.2 := by
  unfold f_L_law_j469 at hf
  obtain ⟨r469, e469, hf⟩ := ob hf
  refine ev_cV_i i_L_law_469 lk_L_law_47 [.int xs1, .int xs0] rfl rfl (by decide) (gK_of e469).1.1 (gK_of e469).1.2 (Nat.le_of_ble_eq_true rfl) (by decide) (e_X10_copy e469) ?_
  refine ev_icmp_eq (tg := 1066) i_L_law_472 (by decide) (fun c472 => ?_) (fun c472 => ?_)
  · rw [if_pos c472] at hf
    refine ev_iinc (y := (x3 + (7 : Int32))) i_L_law_1066 rfl rfl (by decide) ?_
    refine ev_goto (tg := 18) i_L_law_1069 (by decide) ?_
    exact hk18 (x3 + (7 : Int32)) r469.2 _ hf
  · rw [if_neg c472] at hf
    refine ev_iconst i_L_law_475 lt_i_0 ?_
    cases hf
    exact ev_zret i_L_law_476 rfl (by decide)
def f_L_law_j447 (k18 : Int32 → MH → Option (Int32 × MH)) (L : Nat) (xs : Nat → Int32) (h : MH) (a1 : Nat) (a2 : Nat) (x3 : Int32) (xs0 : Int32) (xs1 : Int32) (as2 : Nat) : Option (Int32 × MH) := (f_X9_copy h as2 xs1 xs0).bind fun r447 => (sX L xs (x3 + (1 : Int32))).bind fun v455 => (sX L xs (x3 + (2 : Int32))).bind fun v460 => (if v460 = 0 then (f_L_law_j469 (fun x3f18 hf18 => k18 x3f18 hf18) L xs r447.2 a1 a2 x3 (0 : Int32) v455 a2 r447.1) else (f_L_law_j469 (fun x3f18 hf18 => k18 x3f18 hf18) L xs r447.2 a1 a2 x3 (1 : Int32) v455 a2 r447.1))
set_option maxRecDepth 20000 in
theorem j_L_law_447 {G : GG} {k18 : Int32 → MH → Option (Int32 × MH)} {h : MH} {a1 : Nat} {a2 : Nat} {x3 : Int32} {xs0 : Int32} {xs1 : Int32} {as2 : Nat} {r : (Int32 × MH)} (hk18 : ∀ (x3z : Int32) (hz : MH) (r : (Int32 × MH)), k18 x3z hz = some r → Ev G 13 M_L_law 18 [some (.long 0), some (.ref a1), some (.ref a2), some (.int x3z)] [] hz (some (.int r.1)) r.2) (hf : f_L_law_j447 k18 (gg_L G) (gg_x G) h a1 a2 x3 xs0 xs1 as2 = some r) : Ev G 13 M_L_law 447 [some (.long 0), some (.ref a1), some (.ref a2), some (.int x3)] [.int xs0, .int xs1, .ref as2] h (some (.int r.1)) r.2 := by
  unfold f_L_law_j447 at hf
  obtain ⟨r447, e447, hf⟩ := ob hf
  refine ev_cV_i i_L_law_447 lk_L_law_43 [.int xs1, .int xs0] rfl rfl (by decide) (gK_of e447).1.1 (gK_of e447).1.2 (Nat.le_of_ble_eq_true rfl) (by decide) (e_X9_copy e447) ?_
  refine ev_aload_n i_L_law_450 rfl ?_
  refine ev_aload_nS i_L_law_451 rfl ?_
  refine ev_iload_n i_L_law_452 rfl ?_
  refine ev_iconst i_L_law_453 lt_i_1 ?_
  refine ev_iadd i_L_law_454 ?_
  obtain ⟨v455, e455, hf⟩ := ob hf
  refine ev_sX rfl i_L_law_455 e455 ?_
  refine ev_aload_nS i_L_law_456 rfl ?_
  refine ev_iload_n i_L_law_457 rfl ?_
  refine ev_iconst i_L_law_458 lt_i_2 ?_
  refine ev_iadd i_L_law_459 ?_
  obtain ⟨v460, e460, hf⟩ := ob hf
  refine ev_sX rfl i_L_law_460 e460 ?_
  refine ev_if_eq (tg := 468) i_L_law_461 (by decide) (fun c461 => ?_) (fun c461 => ?_)
  · rw [if_pos c461] at hf
    refine ev_iconst i_L_law_468 lt_i_0 ?_
    exact j_L_law_469 (fun x3f18 hf18 r hf => by
      exact hk18 x3f18 hf18 _ hf) hf
  · rw [if_neg c461] at hf
    refine ev_iconst i_L_law_464 lt_i_1 ?_
    refine ev_goto (tg := 469) i_L_law_465 (by decide) ?_
    exact j_L_law_469 (fun x3f18 hf18 r hf => by
      exact hk18 x3f18 hf18 _ hf) hf
def f_L_law_L18 (k1072 : MH → Option (Int32 × MH)) (L : Nat) (xs : Nat → Int32) (a1 : Nat) (a2 : Nat) : Nat → MH → Int32 → Option (Int32 × MH)
  | 0, _, _ => none
  | n + 1, h, x3 => (if ((Int32.ofNat L) - (7 : Int32)) < x3 then (k1072 h) else ((sX L xs x3).bind fun v29 => (if (v29 &&& (31 : Int32)) = 0 then ((sX L xs (x3 + (1 : Int32))).bind fun v173 => (f_X9_net h a1 v173).bind fun r174 => (sX L xs (x3 + (1 : Int32))).bind fun v182 => (f_X10_net r174.2 a2 v182).bind fun r183 => (if r174.1 = r183.1 then (f_L_law_L18 k1072 L xs a1 a2 n r183.2 (x3 + (7 : Int32))) else (some ((0 : Int32), r183.2)))) else (if (v29 &&& (31 : Int32)) = 1 then ((sX L xs (x3 + (1 : Int32))).bind fun v196 => (sX L xs (x3 + (2 : Int32))).bind fun v201 => (sX L xs (x3 + (3 : Int32))).bind fun v206 => (sX L xs (x3 + (4 : Int32))).bind fun v211 => (f_X9_link h a1 v196 v201 v206 v211).bind fun r212 => (sX L xs (x3 + (1 : Int32))).bind fun v220 => (sX L xs (x3 + (2 : Int32))).bind fun v225 => (sX L xs (x3 + (3 : Int32))).bind fun v230 => (sX L xs (x3 + (4 : Int32))).bind fun v235 => (f_X10_link r212.2 a2 v220 v225 v230 v235).bind fun r236 => (if r212.1 = r236.1 then (f_L_law_L18 k1072 L xs a1 a2 n r236.2 (x3 + (7 : Int32))) else (some ((0 : Int32), r236.2)))) else (if (v29 &&& (31 : Int32)) = 2 then ((sX L xs (x3 + (1 : Int32))).bind fun v249 => (sX L xs (x3 + (2 : Int32))).bind fun v254 => (f_X9_host h a1 v249 v254).bind fun r255 => (sX L xs (x3 + (1 : Int32))).bind fun v263 => (sX L xs (x3 + (2 : Int32))).bind fun v268 => (f_X10_host r255.2 a2 v263 v268).bind fun r269 => (if r255.1 = r269.1 then (f_L_law_L18 k1072 L xs a1 a2 n r269.2 (x3 + (7 : Int32))) else (some ((0 : Int32), r269.2)))) else (if (v29 &&& (31 : Int32)) = 3 then ((sX L xs (x3 + (1 : Int32))).bind fun v282 => (sX L xs (x3 + (2 : Int32))).bind fun v287 => (f_X9_unplug h a1 v282 v287).bind fun r288 => (sX L xs (x3 + (1 : Int32))).bind fun v296 => (sX L xs (x3 + (2 : Int32))).bind fun v301 => (f_X10_unplug r288.2 a2 v296 v301).bind fun r302 => (if r288.1 = r302.1 then (f_L_law_L18 k1072 L xs a1 a2 n r302.2 (x3 + (7 : Int32))) else (some ((0 : Int32), r302.2)))) else (if (v29 &&& (31 : Int32)) = 4 then ((sX L xs (x3 + (1 : Int32))).bind fun v315 => (sX L xs (x3 + (2 : Int32))).bind fun v320 => (sX L xs (x3 + (3 : Int32))).bind fun v325 => (sX L xs (x3 + (4 : Int32))).bind fun v330 => (sX L xs (x3 + (5 : Int32))).bind fun v335 => (sX L xs (x3 + (6 : Int32))).bind fun v341 => (f_X9_rule h a1 v315 v320 v325 v330 v335 v341).bind fun r342 => (sX L xs (x3 + (1 : Int32))).bind fun v350 => (sX L xs (x3 + (2 : Int32))).bind fun v355 => (sX L xs (x3 + (3 : Int32))).bind fun v360 => (sX L xs (x3 + (4 : Int32))).bind fun v365 => (sX L xs (x3 + (5 : Int32))).bind fun v370 => (sX L xs (x3 + (6 : Int32))).bind fun v376 => (f_X10_rule r342.2 a2 v350 v355 v360 v365 v370 v376).bind fun r377 => (if r342.1 = r377.1 then (f_L_law_L18 k1072 L xs a1 a2 n r377.2 (x3 + (7 : Int32))) else (some ((0 : Int32), r377.2)))) else (if (v29 &&& (31 : Int32)) = 5 then ((sX L xs (x3 + (1 : Int32))).bind fun v390 => (sX L xs (x3 + (2 : Int32))).bind fun v395 => (sX L xs (x3 + (3 : Int32))).bind fun v400 => (f_X9_strike h a1 v390 v395 v400).bind fun r401 => (sX L xs (x3 + (1 : Int32))).bind fun v409 => (sX L xs (x3 + (2 : Int32))).bind fun v414 => (sX L xs (x3 + (3 : Int32))).bind fun v419 => (f_X10_strike r401.2 a2 v409 v414 v419).bind fun r420 => (if r401.1 = r420.1 then (f_L_law_L18 k1072 L xs a1 a2 n r420.2 (x3 + (7 : Int32))) else (some ((0 : Int32), r420.2)))) else (if (v29 &&& (31 : Int32)) = 6 then ((sX L xs (x3 + (1 : Int32))).bind fun v433 => (sX L xs (x3 + (2 : Int32))).bind fun v438 => (if v438 = 0 then (f_L_law_j447 (fun x3f18 hf18 => f_L_law_L18 k1072 L xs a1 a2 n hf18 x3f18) L xs h a1 a2 x3 (0 : Int32) v433 a1) else (f_L_law_j447 (fun x3f18 hf18 => f_L_law_L18 k1072 L xs a1 a2 n hf18 x3f18) L xs h a1 a2 x3 (1 : Int32) v433 a1))) else (if (v29 &&& (31 : Int32)) = 7 then ((sX L xs (x3 + (1 : Int32))).bind fun v482 => (sX L xs (x3 + (2 : Int32))).bind fun v487 => (sX L xs (x3 + (3 : Int32))).bind fun v492 => (sX L xs (x3 + (4 : Int32))).bind fun v497 => (sX L xs (x3 + (5 : Int32))).bind fun v502 => (sX L xs (x3 + (6 : Int32))).bind fun v508 => (f_X9_want h a1 v482 v487 v492 v497 v502 v508).bind fun r509 => (sX L xs (x3 + (1 : Int32))).bind fun v517 => (sX L xs (x3 + (2 : Int32))).bind fun v522 => (sX L xs (x3 + (3 : Int32))).bind fun v527 => (sX L xs (x3 + (4 : Int32))).bind fun v532 => (sX L xs (x3 + (5 : Int32))).bind fun v537 => (sX L xs (x3 + (6 : Int32))).bind fun v543 => (f_X10_want r509.2 a2 v517 v522 v527 v532 v537 v543).bind fun r544 => (if r509.1 = r544.1 then (f_L_law_L18 k1072 L xs a1 a2 n r544.2 (x3 + (7 : Int32))) else (some ((0 : Int32), r544.2)))) else (if (v29 &&& (31 : Int32)) = 8 then ((sX L xs (x3 + (1 : Int32))).bind fun v557 => (f_X9_unwant h a1 v557).bind fun r558 => (sX L xs (x3 + (1 : Int32))).bind fun v566 => (f_X10_unwant r558.2 a2 v566).bind fun r567 => (if r558.1 = r567.1 then (f_L_law_L18 k1072 L xs a1 a2 n r567.2 (x3 + (7 : Int32))) else (some ((0 : Int32), r567.2)))) else (if (v29 &&& (31 : Int32)) = 9 then ((sX L xs (x3 + (1 : Int32))).bind fun v580 => (f_X9_look h a1 v580).bind fun r581 => (sX L xs (x3 + (1 : Int32))).bind fun v589 => (f_X10_look r581.2 a2 v589).bind fun r590 => (if r581.1 = r590.1 then (f_L_law_L18 k1072 L xs a1 a2 n r590.2 (x3 + (7 : Int32))) else (some ((0 : Int32), r590.2)))) else (if (v29 &&& (31 : Int32)) = 10 then ((sX L xs (x3 + (1 : Int32))).bind fun v603 => (f_X9_ofClass h a1 v603).bind fun r604 => (sX L xs (x3 + (1 : Int32))).bind fun v612 => (f_X10_ofClass r604.2 a2 v612).bind fun r613 => (if r604.1 = r613.1 then (f_L_law_L18 k1072 L xs a1 a2 n r613.2 (x3 + (7 : Int32))) else (some ((0 : Int32), r613.2)))) else (if (v29 &&& (31 : Int32)) = 11 then ((sX L xs (x3 + (1 : Int32))).bind fun v626 => (sX L xs (x3 + (2 : Int32))).bind fun v631 => (sX L xs (x3 + (3 : Int32))).bind fun v636 => (f_X9_way h a1 v626 v631 v636).bind fun r637 => (sX L xs (x3 + (1 : Int32))).bind fun v645 => (sX L xs (x3 + (2 : Int32))).bind fun v650 => (sX L xs (x3 + (3 : Int32))).bind fun v655 => (f_X10_way r637.2 a2 v645 v650 v655).bind fun r656 => (if r637.1 = r656.1 then (f_L_law_L18 k1072 L xs a1 a2 n r656.2 (x3 + (7 : Int32))) else (some ((0 : Int32), r656.2)))) else (if (v29 &&& (31 : Int32)) = 12 then ((sX L xs (x3 + (1 : Int32))).bind fun v669 => (f_X9_on h a1 v669).bind fun v670 => (sX L xs (x3 + (1 : Int32))).bind fun v678 => (f_X10_on h a2 v678).bind fun v679 => (if v670 = v679 then (f_L_law_L18 k1072 L xs a1 a2 n h (x3 + (7 : Int32))) else (some ((0 : Int32), h)))) else (if (v29 &&& (31 : Int32)) = 13 then ((sX L xs (x3 + (1 : Int32))).bind fun v692 => (sX L xs (x3 + (2 : Int32))).bind fun v697 => (f_X9_holds h a1 v692 v697).bind fun r698 => (sX L xs (x3 + (1 : Int32))).bind fun v706 => (sX L xs (x3 + (2 : Int32))).bind fun v711 => (f_X10_holds r698.2 a2 v706 v711).bind fun r712 => (if r698.1 = r712.1 then (f_L_law_L18 k1072 L xs a1 a2 n r712.2 (x3 + (7 : Int32))) else (some ((0 : Int32), r712.2)))) else (if (v29 &&& (31 : Int32)) = 14 then ((sX L xs (x3 + (1 : Int32))).bind fun v725 => (f_X9_kept h a1 v725).bind fun r726 => (sX L xs (x3 + (1 : Int32))).bind fun v734 => (f_X10_kept r726.2 a2 v734).bind fun r735 => (if r726.1 = r735.1 then (f_L_law_L18 k1072 L xs a1 a2 n r735.2 (x3 + (7 : Int32))) else (some ((0 : Int32), r735.2)))) else (if (v29 &&& (31 : Int32)) = 15 then ((sX L xs (x3 + (1 : Int32))).bind fun v748 => (sX L xs (x3 + (2 : Int32))).bind fun v753 => (f_X9_why h a1 v748 v753).bind fun r754 => (sX L xs (x3 + (1 : Int32))).bind fun v762 => (sX L xs (x3 + (2 : Int32))).bind fun v767 => (f_X10_why r754.2 a2 v762 v767).bind fun r768 => (if r754.1 = r768.1 then (f_L_law_L18 k1072 L xs a1 a2 n r768.2 (x3 + (7 : Int32))) else (some ((0 : Int32), r768.2)))) else (if (v29 &&& (31 : Int32)) = 16 then ((f_X9_least h a1).bind fun r777 => (f_X10_least r777.2 a2).bind fun r781 => (if r777.1 = r781.1 then (f_L_law_L18 k1072 L xs a1 a2 n r781.2 (x3 + (7 : Int32))) else (some ((0 : Int32), r781.2)))) else (if (v29 &&& (31 : Int32)) = 17 then ((f_X9_orders h a1).bind fun r790 => (f_X10_orders r790.2 a2).bind fun r794 => (if r790.1 = r794.1 then (f_L_law_L18 k1072 L xs a1 a2 n r794.2 (x3 + (7 : Int32))) else (some ((0 : Int32), r794.2)))) else (if (v29 &&& (31 : Int32)) = 18 then ((sX L xs (x3 + (1 : Int32))).bind fun v807 => (f_X9_order h a1 v807).bind fun r808 => (sX L xs (x3 + (1 : Int32))).bind fun v816 => (f_X10_order r808.2 a2 v816).bind fun r817 => (if r808.1 = r817.1 then (f_L_law_L18 k1072 L xs a1 a2 n r817.2 (x3 + (7 : Int32))) else (some ((0 : Int32), r817.2)))) else (if (v29 &&& (31 : Int32)) = 19 then ((sX L xs (x3 + (1 : Int32))).bind fun v830 => (f_X9_round h a1 v830).bind fun r831 => (sX L xs (x3 + (1 : Int32))).bind fun v839 => (f_X10_round r831.2 a2 v839).bind fun r840 => (if r831.1 = r840.1 then (f_L_law_L18 k1072 L xs a1 a2 n r840.2 (x3 + (7 : Int32))) else (some ((0 : Int32), r840.2)))) else (if (v29 &&& (31 : Int32)) = 20 then ((f_X9_empty h a1).bind fun h849 => (f_X10_empty h849 a2).bind fun h853 => f_L_law_L18 k1072 L xs a1 a2 n h853 (x3 + (7 : Int32))) else (if (v29 &&& (31 : Int32)) = 21 then ((sX L xs (x3 + (1 : Int32))).bind fun v864 => (f_X9_plan h a1 v864).bind fun v865 => (sX L xs (x3 + (1 : Int32))).bind fun v873 => (f_X10_plan h a2 v873).bind fun v874 => (if v865 = v874 then (f_L_law_L18 k1072 L xs a1 a2 n h (x3 + (7 : Int32))) else (some ((0 : Int32), h)))) else (if (v29 &&& (31 : Int32)) = 22 then ((sX L xs (x3 + (1 : Int32))).bind fun v887 => (f_X9_mid h a1 v887).bind fun r888 => (sX L xs (x3 + (1 : Int32))).bind fun v896 => (f_X10_mid r888.2 a2 v896).bind fun r897 => (if r888.1 = r897.1 then (f_L_law_L18 k1072 L xs a1 a2 n r897.2 (x3 + (7 : Int32))) else (some ((0 : Int32), r897.2)))) else (if (v29 &&& (31 : Int32)) = 23 then ((f_X9_begin h a1).bind fun r906 => (f_X10_begin r906.2 a2).bind fun r910 => (if r906.1 = r910.1 then (f_L_law_L18 k1072 L xs a1 a2 n r910.2 (x3 + (7 : Int32))) else (some ((0 : Int32), r910.2)))) else (if (v29 &&& (31 : Int32)) = 24 then ((sX L xs (x3 + (1 : Int32))).bind fun v923 => (sX L xs (x3 + (2 : Int32))).bind fun v928 => (f_X9_send h a1 v923 v928).bind fun r929 => (sX L xs (x3 + (1 : Int32))).bind fun v937 => (sX L xs (x3 + (2 : Int32))).bind fun v942 => (f_X10_send r929.2 a2 v937 v942).bind fun r943 => (if r929.1 = r943.1 then (f_L_law_L18 k1072 L xs a1 a2 n r943.2 (x3 + (7 : Int32))) else (some ((0 : Int32), r943.2)))) else (if (v29 &&& (31 : Int32)) = 25 then ((sX L xs (x3 + (1 : Int32))).bind fun v956 => (f_X9_hop h a1 v956).bind fun r957 => (sX L xs (x3 + (1 : Int32))).bind fun v965 => (f_X10_hop r957.2 a2 v965).bind fun r966 => (if r957.1 = r966.1 then (f_L_law_L18 k1072 L xs a1 a2 n r966.2 (x3 + (7 : Int32))) else (some ((0 : Int32), r966.2)))) else (if (v29 &&& (31 : Int32)) = 26 then ((sX L xs (x3 + (1 : Int32))).bind fun v979 => (f_X9_change h a1 v979).bind fun r980 => (sX L xs (x3 + (1 : Int32))).bind fun v988 => (f_X10_change r980.2 a2 v988).bind fun r989 => (if r980.1 = r989.1 then (f_L_law_L18 k1072 L xs a1 a2 n r989.2 (x3 + (7 : Int32))) else (some ((0 : Int32), r989.2)))) else (if (v29 &&& (31 : Int32)) = 27 then ((f_X9_next h a1).bind fun r998 => (f_X10_next r998.2 a2).bind fun r1002 => (if r998.1 = r1002.1 then (f_L_law_L18 k1072 L xs a1 a2 n r1002.2 (x3 + (7 : Int32))) else (some ((0 : Int32), r1002.2)))) else (if (v29 &&& (31 : Int32)) = 28 then ((sX L xs (x3 + (1 : Int32))).bind fun v1015 => (f_X9_run h a1 v1015).bind fun v1016 => (sX L xs (x3 + (1 : Int32))).bind fun v1024 => (f_X10_run h a2 v1024).bind fun v1025 => (if v1016 = v1025 then (f_L_law_L18 k1072 L xs a1 a2 n h (x3 + (7 : Int32))) else (some ((0 : Int32), h)))) else (if (v29 &&& (31 : Int32)) = 29 then ((sX L xs (x3 + (1 : Int32))).bind fun v1038 => (sX L xs (x3 + (2 : Int32))).bind fun v1043 => (f_X9_packet h a1 v1038 v1043).bind fun v1044 => (sX L xs (x3 + (1 : Int32))).bind fun v1052 => (sX L xs (x3 + (2 : Int32))).bind fun v1057 => (f_X10_packet h a2 v1052 v1057).bind fun v1058 => (if v1044 = v1058 then (f_L_law_L18 k1072 L xs a1 a2 n h (x3 + (7 : Int32))) else (some ((0 : Int32), h)))) else (f_L_law_L18 k1072 L xs a1 a2 n h (x3 + (7 : Int32)))))))))))))))))))))))))))))))))))
set_option maxRecDepth 20000 in
theorem l_L_law_18 {G : GG} {k1072 : MH → Option (Int32 × MH)} {a1 : Nat} {a2 : Nat} (hk1072 : ∀ (hz : MH) (r : (Int32 × MH)), k1072 hz = some r → Ev G 13 M_L_law 1072 [none, none, none, none] [] hz (some (.int r.1)) r.2) : ∀ (n : Nat) (h : MH) (x3 : Int32) (r : (Int32 × MH)), f_L_law_L18 k1072 (gg_L G) (gg_x G) a1 a2 n h x3 = some r → Ev G 13 M_L_law 18 [some (.long 0), some (.ref a1), some (.ref a2), some (.int x3)] [] h (some (.int r.1)) r.2 := by
  intro n
  induction n with
  | zero => intro h x3 r hf; rw [f_L_law_L18] at hf; cases hf
  | succ n ih =>
    intro h x3 r hf
    rw [f_L_law_L18] at hf
    refine ev_iload_n i_L_law_18 rfl ?_
    refine ev_aload_nS i_L_law_19 rfl ?_
    refine ev_slen rfl i_L_law_20 ?_
    refine ev_bipush i_L_law_21 lt_b_7 ?_
    refine ev_isub i_L_law_23 ?_
    refine ev_icmp_gt (tg := 1072) i_L_law_24 (by decide) (fun c24 => ?_) (fun c24 => ?_)
    · rw [if_pos c24] at hf
      refine ev_sub (lc2 := [none, none, none, none]) ⟨Or.inl rfl, Or.inl rfl, Or.inl rfl, Or.inl rfl, trivial⟩ ?_
      exact hk1072 h _ hf
    · rw [if_neg c24] at hf
      refine ev_aload_nS i_L_law_27 rfl ?_
      refine ev_iload_n i_L_law_28 rfl ?_
      obtain ⟨v29, e29, hf⟩ := ob hf
      refine ev_sX rfl i_L_law_29 e29 ?_
      refine ev_bipush i_L_law_30 lt_b_31 ?_
      refine ev_iand i_L_law_32 ?_
      by_cases c33_0 : (v29 &&& (31 : Int32)) = 0
      · rw [if_pos c33_0] at hf
        refine ev_ts (tg := 168) 0 135 i_L_law_33 c33_0 (by decide) ?_
        refine ev_aload_n i_L_law_168 rfl ?_
        refine ev_aload_nS i_L_law_169 rfl ?_
        refine ev_iload_n i_L_law_170 rfl ?_
        refine ev_iconst i_L_law_171 lt_i_1 ?_
        refine ev_iadd i_L_law_172 ?_
        obtain ⟨v173, e173, hf⟩ := ob hf
        refine ev_sX rfl i_L_law_173 e173 ?_
        obtain ⟨r174, e174, hf⟩ := ob hf
        refine ev_cV_i i_L_law_174 lk_L_law_13 [.int v173] rfl rfl (by decide) (gK_of e174).1.1 (gK_of e174).1.2 (Nat.le_of_ble_eq_true rfl) (by decide) (e_X9_net e174) ?_
        refine ev_aload_n i_L_law_177 rfl ?_
        refine ev_aload_nS i_L_law_178 rfl ?_
        refine ev_iload_n i_L_law_179 rfl ?_
        refine ev_iconst i_L_law_180 lt_i_1 ?_
        refine ev_iadd i_L_law_181 ?_
        obtain ⟨v182, e182, hf⟩ := ob hf
        refine ev_sX rfl i_L_law_182 e182 ?_
        obtain ⟨r183, e183, hf⟩ := ob hf
        refine ev_cV_i i_L_law_183 lk_L_law_17 [.int v182] rfl rfl (by decide) (gK_of e183).1.1 (gK_of e183).1.2 (Nat.le_of_ble_eq_true rfl) (by decide) (e_X10_net e183) ?_
        refine ev_icmp_eq (tg := 1066) i_L_law_186 (by decide) (fun c186 => ?_) (fun c186 => ?_)
        · rw [if_pos c186] at hf
          refine ev_iinc (y := (x3 + (7 : Int32))) i_L_law_1066 rfl rfl (by decide) ?_
          refine ev_goto (tg := 18) i_L_law_1069 (by decide) ?_
          exact ih r183.2 (x3 + (7 : Int32)) _ hf
        · rw [if_neg c186] at hf
          refine ev_iconst i_L_law_189 lt_i_0 ?_
          cases hf
          exact ev_zret i_L_law_190 rfl (by decide)
      rw [if_neg c33_0] at hf
      by_cases c33_1 : (v29 &&& (31 : Int32)) = 1
      · rw [if_pos c33_1] at hf
        refine ev_ts (tg := 191) 1 158 i_L_law_33 c33_1 (by decide) ?_
        refine ev_aload_n i_L_law_191 rfl ?_
        refine ev_aload_nS i_L_law_192 rfl ?_
        refine ev_iload_n i_L_law_193 rfl ?_
        refine ev_iconst i_L_law_194 lt_i_1 ?_
        refine ev_iadd i_L_law_195 ?_
        obtain ⟨v196, e196, hf⟩ := ob hf
        refine ev_sX rfl i_L_law_196 e196 ?_
        refine ev_aload_nS i_L_law_197 rfl ?_
        refine ev_iload_n i_L_law_198 rfl ?_
        refine ev_iconst i_L_law_199 lt_i_2 ?_
        refine ev_iadd i_L_law_200 ?_
        obtain ⟨v201, e201, hf⟩ := ob hf
        refine ev_sX rfl i_L_law_201 e201 ?_
        refine ev_aload_nS i_L_law_202 rfl ?_
        refine ev_iload_n i_L_law_203 rfl ?_
        refine ev_iconst i_L_law_204 lt_i_3 ?_
        refine ev_iadd i_L_law_205 ?_
        obtain ⟨v206, e206, hf⟩ := ob hf
        refine ev_sX rfl i_L_law_206 e206 ?_
        refine ev_aload_nS i_L_law_207 rfl ?_
        refine ev_iload_n i_L_law_208 rfl ?_
        refine ev_iconst i_L_law_209 lt_i_4 ?_
        refine ev_iadd i_L_law_210 ?_
        obtain ⟨v211, e211, hf⟩ := ob hf
        refine ev_sX rfl i_L_law_211 e211 ?_
        obtain ⟨r212, e212, hf⟩ := ob hf
        refine ev_cV_i i_L_law_212 lk_L_law_18 [.int v196, .int v201, .int v206, .int v211] rfl rfl (by decide) (gK_of e212).1.1 (gK_of e212).1.2 (Nat.le_of_ble_eq_true rfl) (by decide) (e_X9_link e212) ?_
        refine ev_aload_n i_L_law_215 rfl ?_
        refine ev_aload_nS i_L_law_216 rfl ?_
        refine ev_iload_n i_L_law_217 rfl ?_
        refine ev_iconst i_L_law_218 lt_i_1 ?_
        refine ev_iadd i_L_law_219 ?_
        obtain ⟨v220, e220, hf⟩ := ob hf
        refine ev_sX rfl i_L_law_220 e220 ?_
        refine ev_aload_nS i_L_law_221 rfl ?_
        refine ev_iload_n i_L_law_222 rfl ?_
        refine ev_iconst i_L_law_223 lt_i_2 ?_
        refine ev_iadd i_L_law_224 ?_
        obtain ⟨v225, e225, hf⟩ := ob hf
        refine ev_sX rfl i_L_law_225 e225 ?_
        refine ev_aload_nS i_L_law_226 rfl ?_
        refine ev_iload_n i_L_law_227 rfl ?_
        refine ev_iconst i_L_law_228 lt_i_3 ?_
        refine ev_iadd i_L_law_229 ?_
        obtain ⟨v230, e230, hf⟩ := ob hf
        refine ev_sX rfl i_L_law_230 e230 ?_
        refine ev_aload_nS i_L_law_231 rfl ?_
        refine ev_iload_n i_L_law_232 rfl ?_
        refine ev_iconst i_L_law_233 lt_i_4 ?_
        refine ev_iadd i_L_law_234 ?_
        obtain ⟨v235, e235, hf⟩ := ob hf
        refine ev_sX rfl i_L_law_235 e235 ?_
        obtain ⟨r236, e236, hf⟩ := ob hf
        refine ev_cV_i i_L_law_236 lk_L_law_22 [.int v220, .int v225, .int v230, .int v235] rfl rfl (by decide) (gK_of e236).1.1 (gK_of e236).1.2 (Nat.le_of_ble_eq_true rfl) (by decide) (e_X10_link e236) ?_
        refine ev_icmp_eq (tg := 1066) i_L_law_239 (by decide) (fun c239 => ?_) (fun c239 => ?_)
        · rw [if_pos c239] at hf
          refine ev_iinc (y := (x3 + (7 : Int32))) i_L_law_1066 rfl rfl (by decide) ?_
          refine ev_goto (tg := 18) i_L_law_1069 (by decide) ?_
          exact ih r236.2 (x3 + (7 : Int32)) _ hf
        · rw [if_neg c239] at hf
          refine ev_iconst i_L_law_242 lt_i_0 ?_
          cases hf
          exact ev_zret i_L_law_243 rfl (by decide)
      rw [if_neg c33_1] at hf
      by_cases c33_2 : (v29 &&& (31 : Int32)) = 2
      · rw [if_pos c33_2] at hf
        refine ev_ts (tg := 244) 2 211 i_L_law_33 c33_2 (by decide) ?_
        refine ev_aload_n i_L_law_244 rfl ?_
        refine ev_aload_nS i_L_law_245 rfl ?_
        refine ev_iload_n i_L_law_246 rfl ?_
        refine ev_iconst i_L_law_247 lt_i_1 ?_
        refine ev_iadd i_L_law_248 ?_
        obtain ⟨v249, e249, hf⟩ := ob hf
        refine ev_sX rfl i_L_law_249 e249 ?_
        refine ev_aload_nS i_L_law_250 rfl ?_
        refine ev_iload_n i_L_law_251 rfl ?_
        refine ev_iconst i_L_law_252 lt_i_2 ?_
        refine ev_iadd i_L_law_253 ?_
        obtain ⟨v254, e254, hf⟩ := ob hf
        refine ev_sX rfl i_L_law_254 e254 ?_
        obtain ⟨r255, e255, hf⟩ := ob hf
        refine ev_cV_i i_L_law_255 lk_L_law_23 [.int v249, .int v254] rfl rfl (by decide) (gK_of e255).1.1 (gK_of e255).1.2 (Nat.le_of_ble_eq_true rfl) (by decide) (e_X9_host e255) ?_
        refine ev_aload_n i_L_law_258 rfl ?_
        refine ev_aload_nS i_L_law_259 rfl ?_
        refine ev_iload_n i_L_law_260 rfl ?_
        refine ev_iconst i_L_law_261 lt_i_1 ?_
        refine ev_iadd i_L_law_262 ?_
        obtain ⟨v263, e263, hf⟩ := ob hf
        refine ev_sX rfl i_L_law_263 e263 ?_
        refine ev_aload_nS i_L_law_264 rfl ?_
        refine ev_iload_n i_L_law_265 rfl ?_
        refine ev_iconst i_L_law_266 lt_i_2 ?_
        refine ev_iadd i_L_law_267 ?_
        obtain ⟨v268, e268, hf⟩ := ob hf
        refine ev_sX rfl i_L_law_268 e268 ?_
        obtain ⟨r269, e269, hf⟩ := ob hf
        refine ev_cV_i i_L_law_269 lk_L_law_27 [.int v263, .int v268] rfl rfl (by decide) (gK_of e269).1.1 (gK_of e269).1.2 (Nat.le_of_ble_eq_true rfl) (by decide) (e_X10_host e269) ?_
        refine ev_icmp_eq (tg := 1066) i_L_law_272 (by decide) (fun c272 => ?_) (fun c272 => ?_)
        · rw [if_pos c272] at hf
          refine ev_iinc (y := (x3 + (7 : Int32))) i_L_law_1066 rfl rfl (by decide) ?_
          refine ev_goto (tg := 18) i_L_law_1069 (by decide) ?_
          exact ih r269.2 (x3 + (7 : Int32)) _ hf
        · rw [if_neg c272] at hf
          refine ev_iconst i_L_law_275 lt_i_0 ?_
          cases hf
          exact ev_zret i_L_law_276 rfl (by decide)
      rw [if_neg c33_2] at hf
      by_cases c33_3 : (v29 &&& (31 : Int32)) = 3
      · rw [if_pos c33_3] at hf
        refine ev_ts (tg := 277) 3 244 i_L_law_33 c33_3 (by decide) ?_
        refine ev_aload_n i_L_law_277 rfl ?_
        refine ev_aload_nS i_L_law_278 rfl ?_
        refine ev_iload_n i_L_law_279 rfl ?_
        refine ev_iconst i_L_law_280 lt_i_1 ?_
        refine ev_iadd i_L_law_281 ?_
        obtain ⟨v282, e282, hf⟩ := ob hf
        refine ev_sX rfl i_L_law_282 e282 ?_
        refine ev_aload_nS i_L_law_283 rfl ?_
        refine ev_iload_n i_L_law_284 rfl ?_
        refine ev_iconst i_L_law_285 lt_i_2 ?_
        refine ev_iadd i_L_law_286 ?_
        obtain ⟨v287, e287, hf⟩ := ob hf
        refine ev_sX rfl i_L_law_287 e287 ?_
        obtain ⟨r288, e288, hf⟩ := ob hf
        refine ev_cV_i i_L_law_288 lk_L_law_28 [.int v282, .int v287] rfl rfl (by decide) (gK_of e288).1.1 (gK_of e288).1.2 (Nat.le_of_ble_eq_true rfl) (by decide) (e_X9_unplug e288) ?_
        refine ev_aload_n i_L_law_291 rfl ?_
        refine ev_aload_nS i_L_law_292 rfl ?_
        refine ev_iload_n i_L_law_293 rfl ?_
        refine ev_iconst i_L_law_294 lt_i_1 ?_
        refine ev_iadd i_L_law_295 ?_
        obtain ⟨v296, e296, hf⟩ := ob hf
        refine ev_sX rfl i_L_law_296 e296 ?_
        refine ev_aload_nS i_L_law_297 rfl ?_
        refine ev_iload_n i_L_law_298 rfl ?_
        refine ev_iconst i_L_law_299 lt_i_2 ?_
        refine ev_iadd i_L_law_300 ?_
        obtain ⟨v301, e301, hf⟩ := ob hf
        refine ev_sX rfl i_L_law_301 e301 ?_
        obtain ⟨r302, e302, hf⟩ := ob hf
        refine ev_cV_i i_L_law_302 lk_L_law_32 [.int v296, .int v301] rfl rfl (by decide) (gK_of e302).1.1 (gK_of e302).1.2 (Nat.le_of_ble_eq_true rfl) (by decide) (e_X10_unplug e302) ?_
        refine ev_icmp_eq (tg := 1066) i_L_law_305 (by decide) (fun c305 => ?_) (fun c305 => ?_)
        · rw [if_pos c305] at hf
          refine ev_iinc (y := (x3 + (7 : Int32))) i_L_law_1066 rfl rfl (by decide) ?_
          refine ev_goto (tg := 18) i_L_law_1069 (by decide) ?_
          exact ih r302.2 (x3 + (7 : Int32)) _ hf
        · rw [if_neg c305] at hf
          refine ev_iconst i_L_law_308 lt_i_0 ?_
          cases hf
          exact ev_zret i_L_law_309 rfl (by decide)
      rw [if_neg c33_3] at hf
      by_cases c33_4 : (v29 &&& (31 : Int32)) = 4
      · rw [if_pos c33_4] at hf
        refine ev_ts (tg := 310) 4 277 i_L_law_33 c33_4 (by decide) ?_
        refine ev_aload_n i_L_law_310 rfl ?_
        refine ev_aload_nS i_L_law_311 rfl ?_
        refine ev_iload_n i_L_law_312 rfl ?_
        refine ev_iconst i_L_law_313 lt_i_1 ?_
        refine ev_iadd i_L_law_314 ?_
        obtain ⟨v315, e315, hf⟩ := ob hf
        refine ev_sX rfl i_L_law_315 e315 ?_
        refine ev_aload_nS i_L_law_316 rfl ?_
        refine ev_iload_n i_L_law_317 rfl ?_
        refine ev_iconst i_L_law_318 lt_i_2 ?_
        refine ev_iadd i_L_law_319 ?_
        obtain ⟨v320, e320, hf⟩ := ob hf
        refine ev_sX rfl i_L_law_320 e320 ?_
        refine ev_aload_nS i_L_law_321 rfl ?_
        refine ev_iload_n i_L_law_322 rfl ?_
        refine ev_iconst i_L_law_323 lt_i_3 ?_
        refine ev_iadd i_L_law_324 ?_
        obtain ⟨v325, e325, hf⟩ := ob hf
        refine ev_sX rfl i_L_law_325 e325 ?_
        refine ev_aload_nS i_L_law_326 rfl ?_
        refine ev_iload_n i_L_law_327 rfl ?_
        refine ev_iconst i_L_law_328 lt_i_4 ?_
        refine ev_iadd i_L_law_329 ?_
        obtain ⟨v330, e330, hf⟩ := ob hf
        refine ev_sX rfl i_L_law_330 e330 ?_
        refine ev_aload_nS i_L_law_331 rfl ?_
        refine ev_iload_n i_L_law_332 rfl ?_
        refine ev_iconst i_L_law_333 lt_i_5 ?_
        refine ev_iadd i_L_law_334 ?_
        obtain ⟨v335, e335, hf⟩ := ob hf
        refine ev_sX rfl i_L_law_335 e335 ?_
        refine ev_aload_nS i_L_law_336 rfl ?_
        refine ev_iload_n i_L_law_337 rfl ?_
        refine ev_bipush i_L_law_338 lt_b_6 ?_
        refine ev_iadd i_L_law_340 ?_
        obtain ⟨v341, e341, hf⟩ := ob hf
        refine ev_sX rfl i_L_law_341 e341 ?_
        obtain ⟨r342, e342, hf⟩ := ob hf
        refine ev_cV_i i_L_law_342 lk_L_law_33 [.int v315, .int v320, .int v325, .int v330, .int v335, .int v341] rfl rfl (by decide) (gK_of e342).1.1 (gK_of e342).1.2 (Nat.le_of_ble_eq_true rfl) (by decide) (e_X9_rule e342) ?_
        refine ev_aload_n i_L_law_345 rfl ?_
        refine ev_aload_nS i_L_law_346 rfl ?_
        refine ev_iload_n i_L_law_347 rfl ?_
        refine ev_iconst i_L_law_348 lt_i_1 ?_
        refine ev_iadd i_L_law_349 ?_
        obtain ⟨v350, e350, hf⟩ := ob hf
        refine ev_sX rfl i_L_law_350 e350 ?_
        refine ev_aload_nS i_L_law_351 rfl ?_
        refine ev_iload_n i_L_law_352 rfl ?_
        refine ev_iconst i_L_law_353 lt_i_2 ?_
        refine ev_iadd i_L_law_354 ?_
        obtain ⟨v355, e355, hf⟩ := ob hf
        refine ev_sX rfl i_L_law_355 e355 ?_
        refine ev_aload_nS i_L_law_356 rfl ?_
        refine ev_iload_n i_L_law_357 rfl ?_
        refine ev_iconst i_L_law_358 lt_i_3 ?_
        refine ev_iadd i_L_law_359 ?_
        obtain ⟨v360, e360, hf⟩ := ob hf
        refine ev_sX rfl i_L_law_360 e360 ?_
        refine ev_aload_nS i_L_law_361 rfl ?_
        refine ev_iload_n i_L_law_362 rfl ?_
        refine ev_iconst i_L_law_363 lt_i_4 ?_
        refine ev_iadd i_L_law_364 ?_
        obtain ⟨v365, e365, hf⟩ := ob hf
        refine ev_sX rfl i_L_law_365 e365 ?_
        refine ev_aload_nS i_L_law_366 rfl ?_
        refine ev_iload_n i_L_law_367 rfl ?_
        refine ev_iconst i_L_law_368 lt_i_5 ?_
        refine ev_iadd i_L_law_369 ?_
        obtain ⟨v370, e370, hf⟩ := ob hf
        refine ev_sX rfl i_L_law_370 e370 ?_
        refine ev_aload_nS i_L_law_371 rfl ?_
        refine ev_iload_n i_L_law_372 rfl ?_
        refine ev_bipush i_L_law_373 lt_b_6 ?_
        refine ev_iadd i_L_law_375 ?_
        obtain ⟨v376, e376, hf⟩ := ob hf
        refine ev_sX rfl i_L_law_376 e376 ?_
        obtain ⟨r377, e377, hf⟩ := ob hf
        refine ev_cV_i i_L_law_377 lk_L_law_37 [.int v350, .int v355, .int v360, .int v365, .int v370, .int v376] rfl rfl (by decide) (gK_of e377).1.1 (gK_of e377).1.2 (Nat.le_of_ble_eq_true rfl) (by decide) (e_X10_rule e377) ?_
        refine ev_icmp_eq (tg := 1066) i_L_law_380 (by decide) (fun c380 => ?_) (fun c380 => ?_)
        · rw [if_pos c380] at hf
          refine ev_iinc (y := (x3 + (7 : Int32))) i_L_law_1066 rfl rfl (by decide) ?_
          refine ev_goto (tg := 18) i_L_law_1069 (by decide) ?_
          exact ih r377.2 (x3 + (7 : Int32)) _ hf
        · rw [if_neg c380] at hf
          refine ev_iconst i_L_law_383 lt_i_0 ?_
          cases hf
          exact ev_zret i_L_law_384 rfl (by decide)
      rw [if_neg c33_4] at hf
      by_cases c33_5 : (v29 &&& (31 : Int32)) = 5
      · rw [if_pos c33_5] at hf
        refine ev_ts (tg := 385) 5 352 i_L_law_33 c33_5 (by decide) ?_
        refine ev_aload_n i_L_law_385 rfl ?_
        refine ev_aload_nS i_L_law_386 rfl ?_
        refine ev_iload_n i_L_law_387 rfl ?_
        refine ev_iconst i_L_law_388 lt_i_1 ?_
        refine ev_iadd i_L_law_389 ?_
        obtain ⟨v390, e390, hf⟩ := ob hf
        refine ev_sX rfl i_L_law_390 e390 ?_
        refine ev_aload_nS i_L_law_391 rfl ?_
        refine ev_iload_n i_L_law_392 rfl ?_
        refine ev_iconst i_L_law_393 lt_i_2 ?_
        refine ev_iadd i_L_law_394 ?_
        obtain ⟨v395, e395, hf⟩ := ob hf
        refine ev_sX rfl i_L_law_395 e395 ?_
        refine ev_aload_nS i_L_law_396 rfl ?_
        refine ev_iload_n i_L_law_397 rfl ?_
        refine ev_iconst i_L_law_398 lt_i_3 ?_
        refine ev_iadd i_L_law_399 ?_
        obtain ⟨v400, e400, hf⟩ := ob hf
        refine ev_sX rfl i_L_law_400 e400 ?_
        obtain ⟨r401, e401, hf⟩ := ob hf
        refine ev_cV_i i_L_law_401 lk_L_law_38 [.int v390, .int v395, .int v400] rfl rfl (by decide) (gK_of e401).1.1 (gK_of e401).1.2 (Nat.le_of_ble_eq_true rfl) (by decide) (e_X9_strike e401) ?_
        refine ev_aload_n i_L_law_404 rfl ?_
        refine ev_aload_nS i_L_law_405 rfl ?_
        refine ev_iload_n i_L_law_406 rfl ?_
        refine ev_iconst i_L_law_407 lt_i_1 ?_
        refine ev_iadd i_L_law_408 ?_
        obtain ⟨v409, e409, hf⟩ := ob hf
        refine ev_sX rfl i_L_law_409 e409 ?_
        refine ev_aload_nS i_L_law_410 rfl ?_
        refine ev_iload_n i_L_law_411 rfl ?_
        refine ev_iconst i_L_law_412 lt_i_2 ?_
        refine ev_iadd i_L_law_413 ?_
        obtain ⟨v414, e414, hf⟩ := ob hf
        refine ev_sX rfl i_L_law_414 e414 ?_
        refine ev_aload_nS i_L_law_415 rfl ?_
        refine ev_iload_n i_L_law_416 rfl ?_
        refine ev_iconst i_L_law_417 lt_i_3 ?_
        refine ev_iadd i_L_law_418 ?_
        obtain ⟨v419, e419, hf⟩ := ob hf
        refine ev_sX rfl i_L_law_419 e419 ?_
        obtain ⟨r420, e420, hf⟩ := ob hf
        refine ev_cV_i i_L_law_420 lk_L_law_42 [.int v409, .int v414, .int v419] rfl rfl (by decide) (gK_of e420).1.1 (gK_of e420).1.2 (Nat.le_of_ble_eq_true rfl) (by decide) (e_X10_strike e420) ?_
        refine ev_icmp_eq (tg := 1066) i_L_law_423 (by decide) (fun c423 => ?_) (fun c423 => ?_)
        · rw [if_pos c423] at hf
          refine ev_iinc (y := (x3 + (7 : Int32))) i_L_law_1066 rfl rfl (by decide) ?_
          refine ev_goto (tg := 18) i_L_law_1069 (by decide) ?_
          exact ih r420.2 (x3 + (7 : Int32)) _ hf
        · rw [if_neg c423] at hf
          refine ev_iconst i_L_law_426 lt_i_0 ?_
          cases hf
          exact ev_zret i_L_law_427 rfl (by decide)
      rw [if_neg c33_5] at hf
      by_cases c33_6 : (v29 &&& (31 : Int32)) = 6
      · rw [if_pos c33_6] at hf
        refine ev_ts (tg := 428) 6 395 i_L_law_33 c33_6 (by decide) ?_
        refine ev_aload_n i_L_law_428 rfl ?_
        refine ev_aload_nS i_L_law_429 rfl ?_
        refine ev_iload_n i_L_law_430 rfl ?_
        refine ev_iconst i_L_law_431 lt_i_1 ?_
        refine ev_iadd i_L_law_432 ?_
        obtain ⟨v433, e433, hf⟩ := ob hf
        refine ev_sX rfl i_L_law_433 e433 ?_
        refine ev_aload_nS i_L_law_434 rfl ?_
        refine ev_iload_n i_L_law_435 rfl ?_
        refine ev_iconst i_L_law_436 lt_i_2 ?_
        refine ev_iadd i_L_law_437 ?_
        obtain ⟨v438, e438, hf⟩ := ob hf
        refine ev_sX rfl i_L_law_438 e438 ?_
        refine ev_if_eq (tg := 446) i_L_law_439 (by decide) (fun c439 => ?_) (fun c439 => ?_)
        · rw [if_pos c439] at hf
          refine ev_iconst i_L_law_446 lt_i_0 ?_
          exact j_L_law_447 (fun x3f18 hf18 r hf => by
            exact ih hf18 x3f18 _ hf) hf
        · rw [if_neg c439] at hf
          refine ev_iconst i_L_law_442 lt_i_1 ?_
          refine ev_goto (tg := 447) i_L_law_443 (by decide) ?_
          exact j_L_law_447 (fun x3f18 hf18 r hf => by
            exact ih hf18 x3f18 _ hf) hf
      rw [if_neg c33_6] at hf
      by_cases c33_7 : (v29 &&& (31 : Int32)) = 7
      · rw [if_pos c33_7] at hf
        refine ev_ts (tg := 477) 7 444 i_L_law_33 c33_7 (by decide) ?_
        refine ev_aload_n i_L_law_477 rfl ?_
        refine ev_aload_nS i_L_law_478 rfl ?_
        refine ev_iload_n i_L_law_479 rfl ?_
        refine ev_iconst i_L_law_480 lt_i_1 ?_
        refine ev_iadd i_L_law_481 ?_
        obtain ⟨v482, e482, hf⟩ := ob hf
        refine ev_sX rfl i_L_law_482 e482 ?_
        refine ev_aload_nS i_L_law_483 rfl ?_
        refine ev_iload_n i_L_law_484 rfl ?_
        refine ev_iconst i_L_law_485 lt_i_2 ?_
        refine ev_iadd i_L_law_486 ?_
        obtain ⟨v487, e487, hf⟩ := ob hf
        refine ev_sX rfl i_L_law_487 e487 ?_
        refine ev_aload_nS i_L_law_488 rfl ?_
        refine ev_iload_n i_L_law_489 rfl ?_
        refine ev_iconst i_L_law_490 lt_i_3 ?_
        refine ev_iadd i_L_law_491 ?_
        obtain ⟨v492, e492, hf⟩ := ob hf
        refine ev_sX rfl i_L_law_492 e492 ?_
        refine ev_aload_nS i_L_law_493 rfl ?_
        refine ev_iload_n i_L_law_494 rfl ?_
        refine ev_iconst i_L_law_495 lt_i_4 ?_
        refine ev_iadd i_L_law_496 ?_
        obtain ⟨v497, e497, hf⟩ := ob hf
        refine ev_sX rfl i_L_law_497 e497 ?_
        refine ev_aload_nS i_L_law_498 rfl ?_
        refine ev_iload_n i_L_law_499 rfl ?_
        refine ev_iconst i_L_law_500 lt_i_5 ?_
        refine ev_iadd i_L_law_501 ?_
        obtain ⟨v502, e502, hf⟩ := ob hf
        refine ev_sX rfl i_L_law_502 e502 ?_
        refine ev_aload_nS i_L_law_503 rfl ?_
        refine ev_iload_n i_L_law_504 rfl ?_
        refine ev_bipush i_L_law_505 lt_b_6 ?_
        refine ev_iadd i_L_law_507 ?_
        obtain ⟨v508, e508, hf⟩ := ob hf
        refine ev_sX rfl i_L_law_508 e508 ?_
        obtain ⟨r509, e509, hf⟩ := ob hf
        refine ev_cV_i i_L_law_509 lk_L_law_48 [.int v482, .int v487, .int v492, .int v497, .int v502, .int v508] rfl rfl (by decide) (gK_of e509).1.1 (gK_of e509).1.2 (Nat.le_of_ble_eq_true rfl) (by decide) (e_X9_want e509) ?_
        refine ev_aload_n i_L_law_512 rfl ?_
        refine ev_aload_nS i_L_law_513 rfl ?_
        refine ev_iload_n i_L_law_514 rfl ?_
        refine ev_iconst i_L_law_515 lt_i_1 ?_
        refine ev_iadd i_L_law_516 ?_
        obtain ⟨v517, e517, hf⟩ := ob hf
        refine ev_sX rfl i_L_law_517 e517 ?_
        refine ev_aload_nS i_L_law_518 rfl ?_
        refine ev_iload_n i_L_law_519 rfl ?_
        refine ev_iconst i_L_law_520 lt_i_2 ?_
        refine ev_iadd i_L_law_521 ?_
        obtain ⟨v522, e522, hf⟩ := ob hf
        refine ev_sX rfl i_L_law_522 e522 ?_
        refine ev_aload_nS i_L_law_523 rfl ?_
        refine ev_iload_n i_L_law_524 rfl ?_
        refine ev_iconst i_L_law_525 lt_i_3 ?_
        refine ev_iadd i_L_law_526 ?_
        obtain ⟨v527, e527, hf⟩ := ob hf
        refine ev_sX rfl i_L_law_527 e527 ?_
        refine ev_aload_nS i_L_law_528 rfl ?_
        refine ev_iload_n i_L_law_529 rfl ?_
        refine ev_iconst i_L_law_530 lt_i_4 ?_
        refine ev_iadd i_L_law_531 ?_
        obtain ⟨v532, e532, hf⟩ := ob hf
        refine ev_sX rfl i_L_law_532 e532 ?_
        refine ev_aload_nS i_L_law_533 rfl ?_
        refine ev_iload_n i_L_law_534 rfl ?_
        refine ev_iconst i_L_law_535 lt_i_5 ?_
        refine ev_iadd i_L_law_536 ?_
        obtain ⟨v537, e537, hf⟩ := ob hf
        refine ev_sX rfl i_L_law_537 e537 ?_
        refine ev_aload_nS i_L_law_538 rfl ?_
        refine ev_iload_n i_L_law_539 rfl ?_
        refine ev_bipush i_L_law_540 lt_b_6 ?_
        refine ev_iadd i_L_law_542 ?_
        obtain ⟨v543, e543, hf⟩ := ob hf
        refine ev_sX rfl i_L_law_543 e543 ?_
        obtain ⟨r544, e544, hf⟩ := ob hf
        refine ev_cV_i i_L_law_544 lk_L_law_51 [.int v517, .int v522, .int v527, .int v532, .int v537, .int v543] rfl rfl (by decide) (gK_of e544).1.1 (gK_of e544).1.2 (Nat.le_of_ble_eq_true rfl) (by decide) (e_X10_want e544) ?_
        refine ev_icmp_eq (tg := 1066) i_L_law_547 (by decide) (fun c547 => ?_) (fun c547 => ?_)
        · rw [if_pos c547] at hf
          refine ev_iinc (y := (x3 + (7 : Int32))) i_L_law_1066 rfl rfl (by decide) ?_
          refine ev_goto (tg := 18) i_L_law_1069 (by decide) ?_
          exact ih r544.2 (x3 + (7 : Int32)) _ hf
        · rw [if_neg c547] at hf
          refine ev_iconst i_L_law_550 lt_i_0 ?_
          cases hf
          exact ev_zret i_L_law_551 rfl (by decide)
      rw [if_neg c33_7] at hf
      by_cases c33_8 : (v29 &&& (31 : Int32)) = 8
      · rw [if_pos c33_8] at hf
        refine ev_ts (tg := 552) 8 519 i_L_law_33 c33_8 (by decide) ?_
        refine ev_aload_n i_L_law_552 rfl ?_
        refine ev_aload_nS i_L_law_553 rfl ?_
        refine ev_iload_n i_L_law_554 rfl ?_
        refine ev_iconst i_L_law_555 lt_i_1 ?_
        refine ev_iadd i_L_law_556 ?_
        obtain ⟨v557, e557, hf⟩ := ob hf
        refine ev_sX rfl i_L_law_557 e557 ?_
        obtain ⟨r558, e558, hf⟩ := ob hf
        refine ev_cV_i i_L_law_558 lk_L_law_52 [.int v557] rfl rfl (by decide) (gK_of e558).1.1 (gK_of e558).1.2 (Nat.le_of_ble_eq_true rfl) (by decide) (e_X9_unwant e558) ?_
        refine ev_aload_n i_L_law_561 rfl ?_
        refine ev_aload_nS i_L_law_562 rfl ?_
        refine ev_iload_n i_L_law_563 rfl ?_
        refine ev_iconst i_L_law_564 lt_i_1 ?_
        refine ev_iadd i_L_law_565 ?_
        obtain ⟨v566, e566, hf⟩ := ob hf
        refine ev_sX rfl i_L_law_566 e566 ?_
        obtain ⟨r567, e567, hf⟩ := ob hf
        refine ev_cV_i i_L_law_567 lk_L_law_56 [.int v566] rfl rfl (by decide) (gK_of e567).1.1 (gK_of e567).1.2 (Nat.le_of_ble_eq_true rfl) (by decide) (e_X10_unwant e567) ?_
        refine ev_icmp_eq (tg := 1066) i_L_law_570 (by decide) (fun c570 => ?_) (fun c570 => ?_)
        · rw [if_pos c570] at hf
          refine ev_iinc (y := (x3 + (7 : Int32))) i_L_law_1066 rfl rfl (by decide) ?_
          refine ev_goto (tg := 18) i_L_law_1069 (by decide) ?_
          exact ih r567.2 (x3 + (7 : Int32)) _ hf
        · rw [if_neg c570] at hf
          refine ev_iconst i_L_law_573 lt_i_0 ?_
          cases hf
          exact ev_zret i_L_law_574 rfl (by decide)
      rw [if_neg c33_8] at hf
      by_cases c33_9 : (v29 &&& (31 : Int32)) = 9
      · rw [if_pos c33_9] at hf
        refine ev_ts (tg := 575) 9 542 i_L_law_33 c33_9 (by decide) ?_
        refine ev_aload_n i_L_law_575 rfl ?_
        refine ev_aload_nS i_L_law_576 rfl ?_
        refine ev_iload_n i_L_law_577 rfl ?_
        refine ev_iconst i_L_law_578 lt_i_1 ?_
        refine ev_iadd i_L_law_579 ?_
        obtain ⟨v580, e580, hf⟩ := ob hf
        refine ev_sX rfl i_L_law_580 e580 ?_
        obtain ⟨r581, e581, hf⟩ := ob hf
        refine ev_cV_i i_L_law_581 lk_L_law_57 [.int v580] rfl rfl (by decide) (gK_of e581).1.1 (gK_of e581).1.2 (Nat.le_of_ble_eq_true rfl) (by decide) (e_X9_look e581) ?_
        refine ev_aload_n i_L_law_584 rfl ?_
        refine ev_aload_nS i_L_law_585 rfl ?_
        refine ev_iload_n i_L_law_586 rfl ?_
        refine ev_iconst i_L_law_587 lt_i_1 ?_
        refine ev_iadd i_L_law_588 ?_
        obtain ⟨v589, e589, hf⟩ := ob hf
        refine ev_sX rfl i_L_law_589 e589 ?_
        obtain ⟨r590, e590, hf⟩ := ob hf
        refine ev_cV_i i_L_law_590 lk_L_law_60 [.int v589] rfl rfl (by decide) (gK_of e590).1.1 (gK_of e590).1.2 (Nat.le_of_ble_eq_true rfl) (by decide) (e_X10_look e590) ?_
        refine ev_icmp_eq (tg := 1066) i_L_law_593 (by decide) (fun c593 => ?_) (fun c593 => ?_)
        · rw [if_pos c593] at hf
          refine ev_iinc (y := (x3 + (7 : Int32))) i_L_law_1066 rfl rfl (by decide) ?_
          refine ev_goto (tg := 18) i_L_law_1069 (by decide) ?_
          exact ih r590.2 (x3 + (7 : Int32)) _ hf
        · rw [if_neg c593] at hf
          refine ev_iconst i_L_law_596 lt_i_0 ?_
          cases hf
          exact ev_zret i_L_law_597 rfl (by decide)
      rw [if_neg c33_9] at hf
      by_cases c33_10 : (v29 &&& (31 : Int32)) = 10
      · rw [if_pos c33_10] at hf
        refine ev_ts (tg := 598) 10 565 i_L_law_33 c33_10 (by decide) ?_
        refine ev_aload_n i_L_law_598 rfl ?_
        refine ev_aload_nS i_L_law_599 rfl ?_
        refine ev_iload_n i_L_law_600 rfl ?_
        refine ev_iconst i_L_law_601 lt_i_1 ?_
        refine ev_iadd i_L_law_602 ?_
        obtain ⟨v603, e603, hf⟩ := ob hf
        refine ev_sX rfl i_L_law_603 e603 ?_
        obtain ⟨r604, e604, hf⟩ := ob hf
        refine ev_cV_i i_L_law_604 lk_L_law_61 [.int v603] rfl rfl (by decide) (gK_of e604).1.1 (gK_of e604).1.2 (Nat.le_of_ble_eq_true rfl) (by decide) (e_X9_ofClass e604) ?_
        refine ev_aload_n i_L_law_607 rfl ?_
        refine ev_aload_nS i_L_law_608 rfl ?_
        refine ev_iload_n i_L_law_609 rfl ?_
        refine ev_iconst i_L_law_610 lt_i_1 ?_
        refine ev_iadd i_L_law_611 ?_
        obtain ⟨v612, e612, hf⟩ := ob hf
        refine ev_sX rfl i_L_law_612 e612 ?_
        obtain ⟨r613, e613, hf⟩ := ob hf
        refine ev_cV_i i_L_law_613 lk_L_law_64 [.int v612] rfl rfl (by decide) (gK_of e613).1.1 (gK_of e613).1.2 (Nat.le_of_ble_eq_true rfl) (by decide) (e_X10_ofClass e613) ?_
        refine ev_icmp_eq (tg := 1066) i_L_law_616 (by decide) (fun c616 => ?_) (fun c616 => ?_)
        · rw [if_pos c616] at hf
          refine ev_iinc (y := (x3 + (7 : Int32))) i_L_law_1066 rfl rfl (by decide) ?_
          refine ev_goto (tg := 18) i_L_law_1069 (by decide) ?_
          exact ih r613.2 (x3 + (7 : Int32)) _ hf
        · rw [if_neg c616] at hf
          refine ev_iconst i_L_law_619 lt_i_0 ?_
          cases hf
          exact ev_zret i_L_law_620 rfl (by decide)
      rw [if_neg c33_10] at hf
      by_cases c33_11 : (v29 &&& (31 : Int32)) = 11
      · rw [if_pos c33_11] at hf
        refine ev_ts (tg := 621) 11 588 i_L_law_33 c33_11 (by decide) ?_
        refine ev_aload_n i_L_law_621 rfl ?_
        refine ev_aload_nS i_L_law_622 rfl ?_
        refine ev_iload_n i_L_law_623 rfl ?_
        refine ev_iconst i_L_law_624 lt_i_1 ?_
        refine ev_iadd i_L_law_625 ?_
        obtain ⟨v626, e626, hf⟩ := ob hf
        refine ev_sX rfl i_L_law_626 e626 ?_
        refine ev_aload_nS i_L_law_627 rfl ?_
        refine ev_iload_n i_L_law_628 rfl ?_
        refine ev_iconst i_L_law_629 lt_i_2 ?_
        refine ev_iadd i_L_law_630 ?_
        obtain ⟨v631, e631, hf⟩ := ob hf
        refine ev_sX rfl i_L_law_631 e631 ?_
        refine ev_aload_nS i_L_law_632 rfl ?_
        refine ev_iload_n i_L_law_633 rfl ?_
        refine ev_iconst i_L_law_634 lt_i_3 ?_
        refine ev_iadd i_L_law_635 ?_
        obtain ⟨v636, e636, hf⟩ := ob hf
        refine ev_sX rfl i_L_law_636 e636 ?_
        obtain ⟨r637, e637, hf⟩ := ob hf
        refine ev_cV_i i_L_law_637 lk_L_law_65 [.int v626, .int v631, .int v636] rfl rfl (by decide) (gK_of e637).1.1 (gK_of e637).1.2 (Nat.le_of_ble_eq_true rfl) (by decide) (e_X9_way e637) ?_
        refine ev_aload_n i_L_law_640 rfl ?_
        refine ev_aload_nS i_L_law_641 rfl ?_
        refine ev_iload_n i_L_law_642 rfl ?_
        refine ev_iconst i_L_law_643 lt_i_1 ?_
        refine ev_iadd i_L_law_644 ?_
        obtain ⟨v645, e645, hf⟩ := ob hf
        refine ev_sX rfl i_L_law_645 e645 ?_
        refine ev_aload_nS i_L_law_646 rfl ?_
        refine ev_iload_n i_L_law_647 rfl ?_
        refine ev_iconst i_L_law_648 lt_i_2 ?_
        refine ev_iadd i_L_law_649 ?_
        obtain ⟨v650, e650, hf⟩ := ob hf
        refine ev_sX rfl i_L_law_650 e650 ?_
        refine ev_aload_nS i_L_law_651 rfl ?_
        refine ev_iload_n i_L_law_652 rfl ?_
        refine ev_iconst i_L_law_653 lt_i_3 ?_
        refine ev_iadd i_L_law_654 ?_
        obtain ⟨v655, e655, hf⟩ := ob hf
        refine ev_sX rfl i_L_law_655 e655 ?_
        obtain ⟨r656, e656, hf⟩ := ob hf
        refine ev_cV_i i_L_law_656 lk_L_law_68 [.int v645, .int v650, .int v655] rfl rfl (by decide) (gK_of e656).1.1 (gK_of e656).1.2 (Nat.le_of_ble_eq_true rfl) (by decide) (e_X10_way e656) ?_
        refine ev_icmp_eq (tg := 1066) i_L_law_659 (by decide) (fun c659 => ?_) (fun c659 => ?_)
        · rw [if_pos c659] at hf
          refine ev_iinc (y := (x3 + (7 : Int32))) i_L_law_1066 rfl rfl (by decide) ?_
          refine ev_goto (tg := 18) i_L_law_1069 (by decide) ?_
          exact ih r656.2 (x3 + (7 : Int32)) _ hf
        · rw [if_neg c659] at hf
          refine ev_iconst i_L_law_662 lt_i_0 ?_
          cases hf
          exact ev_zret i_L_law_663 rfl (by decide)
      rw [if_neg c33_11] at hf
      by_cases c33_12 : (v29 &&& (31 : Int32)) = 12
      · rw [if_pos c33_12] at hf
        refine ev_ts (tg := 664) 12 631 i_L_law_33 c33_12 (by decide) ?_
        refine ev_aload_n i_L_law_664 rfl ?_
        refine ev_aload_nS i_L_law_665 rfl ?_
        refine ev_iload_n i_L_law_666 rfl ?_
        refine ev_iconst i_L_law_667 lt_i_1 ?_
        refine ev_iadd i_L_law_668 ?_
        obtain ⟨v669, e669, hf⟩ := ob hf
        refine ev_sX rfl i_L_law_669 e669 ?_
        obtain ⟨v670, e670, hf⟩ := ob hf
        refine ev_cV_i i_L_law_670 lk_L_law_69 [.int v669] rfl rfl (by decide) (gK_of e670).1.1 (gK_of e670).1.2 (Nat.le_of_ble_eq_true rfl) (by decide) (e_X9_on e670) ?_
        refine ev_aload_n i_L_law_673 rfl ?_
        refine ev_aload_nS i_L_law_674 rfl ?_
        refine ev_iload_n i_L_law_675 rfl ?_
        refine ev_iconst i_L_law_676 lt_i_1 ?_
        refine ev_iadd i_L_law_677 ?_
        obtain ⟨v678, e678, hf⟩ := ob hf
        refine ev_sX rfl i_L_law_678 e678 ?_
        obtain ⟨v679, e679, hf⟩ := ob hf
        refine ev_cV_i i_L_law_679 lk_L_law_72 [.int v678] rfl rfl (by decide) (gK_of e679).1.1 (gK_of e679).1.2 (Nat.le_of_ble_eq_true rfl) (by decide) (e_X10_on e679) ?_
        refine ev_icmp_eq (tg := 1066) i_L_law_682 (by decide) (fun c682 => ?_) (fun c682 => ?_)
        · rw [if_pos c682] at hf
          refine ev_iinc (y := (x3 + (7 : Int32))) i_L_law_1066 rfl rfl (by decide) ?_
          refine ev_goto (tg := 18) i_L_law_1069 (by decide) ?_
          exact ih h (x3 + (7 : Int32)) _ hf
        · rw [if_neg c682] at hf
          refine ev_iconst i_L_law_685 lt_i_0 ?_
          cases hf
          exact ev_zret i_L_law_686 rfl (by decide)
      rw [if_neg c33_12] at hf
      by_cases c33_13 : (v29 &&& (31 : Int32)) = 13
      · rw [if_pos c33_13] at hf
        refine ev_ts (tg := 687) 13 654 i_L_law_33 c33_13 (by decide) ?_
        refine ev_aload_n i_L_law_687 rfl ?_
        refine ev_aload_nS i_L_law_688 rfl ?_
        refine ev_iload_n i_L_law_689 rfl ?_
        refine ev_iconst i_L_law_690 lt_i_1 ?_
        refine ev_iadd i_L_law_691 ?_
        obtain ⟨v692, e692, hf⟩ := ob hf
        refine ev_sX rfl i_L_law_692 e692 ?_
        refine ev_aload_nS i_L_law_693 rfl ?_
        refine ev_iload_n i_L_law_694 rfl ?_
        refine ev_iconst i_L_law_695 lt_i_2 ?_
        refine ev_iadd i_L_law_696 ?_
        obtain ⟨v697, e697, hf⟩ := ob hf
        refine ev_sX rfl i_L_law_697 e697 ?_
        obtain ⟨r698, e698, hf⟩ := ob hf
        refine ev_cV_i i_L_law_698 lk_L_law_73 [.int v692, .int v697] rfl rfl (by decide) (gK_of e698).1.1 (gK_of e698).1.2 (Nat.le_of_ble_eq_true rfl) (by decide) (e_X9_holds e698) ?_
        refine ev_aload_n i_L_law_701 rfl ?_
        refine ev_aload_nS i_L_law_702 rfl ?_
        refine ev_iload_n i_L_law_703 rfl ?_
        refine ev_iconst i_L_law_704 lt_i_1 ?_
        refine ev_iadd i_L_law_705 ?_
        obtain ⟨v706, e706, hf⟩ := ob hf
        refine ev_sX rfl i_L_law_706 e706 ?_
        refine ev_aload_nS i_L_law_707 rfl ?_
        refine ev_iload_n i_L_law_708 rfl ?_
        refine ev_iconst i_L_law_709 lt_i_2 ?_
        refine ev_iadd i_L_law_710 ?_
        obtain ⟨v711, e711, hf⟩ := ob hf
        refine ev_sX rfl i_L_law_711 e711 ?_
        obtain ⟨r712, e712, hf⟩ := ob hf
        refine ev_cV_i i_L_law_712 lk_L_law_76 [.int v706, .int v711] rfl rfl (by decide) (gK_of e712).1.1 (gK_of e712).1.2 (Nat.le_of_ble_eq_true rfl) (by decide) (e_X10_holds e712) ?_
        refine ev_icmp_eq (tg := 1066) i_L_law_715 (by decide) (fun c715 => ?_) (fun c715 => ?_)
        · rw [if_pos c715] at hf
          refine ev_iinc (y := (x3 + (7 : Int32))) i_L_law_1066 rfl rfl (by decide) ?_
          refine ev_goto (tg := 18) i_L_law_1069 (by decide) ?_
          exact ih r712.2 (x3 + (7 : Int32)) _ hf
        · rw [if_neg c715] at hf
          refine ev_iconst i_L_law_718 lt_i_0 ?_
          cases hf
          exact ev_zret i_L_law_719 rfl (by decide)
      rw [if_neg c33_13] at hf
      by_cases c33_14 : (v29 &&& (31 : Int32)) = 14
      · rw [if_pos c33_14] at hf
        refine ev_ts (tg := 720) 14 687 i_L_law_33 c33_14 (by decide) ?_
        refine ev_aload_n i_L_law_720 rfl ?_
        refine ev_aload_nS i_L_law_721 rfl ?_
        refine ev_iload_n i_L_law_722 rfl ?_
        refine ev_iconst i_L_law_723 lt_i_1 ?_
        refine ev_iadd i_L_law_724 ?_
        obtain ⟨v725, e725, hf⟩ := ob hf
        refine ev_sX rfl i_L_law_725 e725 ?_
        obtain ⟨r726, e726, hf⟩ := ob hf
        refine ev_cV_i i_L_law_726 lk_L_law_77 [.int v725] rfl rfl (by decide) (gK_of e726).1.1 (gK_of e726).1.2 (Nat.le_of_ble_eq_true rfl) (by decide) (e_X9_kept e726) ?_
        refine ev_aload_n i_L_law_729 rfl ?_
        refine ev_aload_nS i_L_law_730 rfl ?_
        refine ev_iload_n i_L_law_731 rfl ?_
        refine ev_iconst i_L_law_732 lt_i_1 ?_
        refine ev_iadd i_L_law_733 ?_
        obtain ⟨v734, e734, hf⟩ := ob hf
        refine ev_sX rfl i_L_law_734 e734 ?_
        obtain ⟨r735, e735, hf⟩ := ob hf
        refine ev_cV_i i_L_law_735 lk_L_law_80 [.int v734] rfl rfl (by decide) (gK_of e735).1.1 (gK_of e735).1.2 (Nat.le_of_ble_eq_true rfl) (by decide) (e_X10_kept e735) ?_
        refine ev_icmp_eq (tg := 1066) i_L_law_738 (by decide) (fun c738 => ?_) (fun c738 => ?_)
        · rw [if_pos c738] at hf
          refine ev_iinc (y := (x3 + (7 : Int32))) i_L_law_1066 rfl rfl (by decide) ?_
          refine ev_goto (tg := 18) i_L_law_1069 (by decide) ?_
          exact ih r735.2 (x3 + (7 : Int32)) _ hf
        · rw [if_neg c738] at hf
          refine ev_iconst i_L_law_741 lt_i_0 ?_
          cases hf
          exact ev_zret i_L_law_742 rfl (by decide)
      rw [if_neg c33_14] at hf
      by_cases c33_15 : (v29 &&& (31 : Int32)) = 15
      · rw [if_pos c33_15] at hf
        refine ev_ts (tg := 743) 15 710 i_L_law_33 c33_15 (by decide) ?_
        refine ev_aload_n i_L_law_743 rfl ?_
        refine ev_aload_nS i_L_law_744 rfl ?_
        refine ev_iload_n i_L_law_745 rfl ?_
        refine ev_iconst i_L_law_746 lt_i_1 ?_
        refine ev_iadd i_L_law_747 ?_
        obtain ⟨v748, e748, hf⟩ := ob hf
        refine ev_sX rfl i_L_law_748 e748 ?_
        refine ev_aload_nS i_L_law_749 rfl ?_
        refine ev_iload_n i_L_law_750 rfl ?_
        refine ev_iconst i_L_law_751 lt_i_2 ?_
        refine ev_iadd i_L_law_752 ?_
        obtain ⟨v753, e753, hf⟩ := ob hf
        refine ev_sX rfl i_L_law_753 e753 ?_
        obtain ⟨r754, e754, hf⟩ := ob hf
        refine ev_cV_i i_L_law_754 lk_L_law_81 [.int v748, .int v753] rfl rfl (by decide) (gK_of e754).1.1 (gK_of e754).1.2 (Nat.le_of_ble_eq_true rfl) (by decide) (e_X9_why e754) ?_
        refine ev_aload_n i_L_law_757 rfl ?_
        refine ev_aload_nS i_L_law_758 rfl ?_
        refine ev_iload_n i_L_law_759 rfl ?_
        refine ev_iconst i_L_law_760 lt_i_1 ?_
        refine ev_iadd i_L_law_761 ?_
        obtain ⟨v762, e762, hf⟩ := ob hf
        refine ev_sX rfl i_L_law_762 e762 ?_
        refine ev_aload_nS i_L_law_763 rfl ?_
        refine ev_iload_n i_L_law_764 rfl ?_
        refine ev_iconst i_L_law_765 lt_i_2 ?_
        refine ev_iadd i_L_law_766 ?_
        obtain ⟨v767, e767, hf⟩ := ob hf
        refine ev_sX rfl i_L_law_767 e767 ?_
        obtain ⟨r768, e768, hf⟩ := ob hf
        refine ev_cV_i i_L_law_768 lk_L_law_84 [.int v762, .int v767] rfl rfl (by decide) (gK_of e768).1.1 (gK_of e768).1.2 (Nat.le_of_ble_eq_true rfl) (by decide) (e_X10_why e768) ?_
        refine ev_icmp_eq (tg := 1066) i_L_law_771 (by decide) (fun c771 => ?_) (fun c771 => ?_)
        · rw [if_pos c771] at hf
          refine ev_iinc (y := (x3 + (7 : Int32))) i_L_law_1066 rfl rfl (by decide) ?_
          refine ev_goto (tg := 18) i_L_law_1069 (by decide) ?_
          exact ih r768.2 (x3 + (7 : Int32)) _ hf
        · rw [if_neg c771] at hf
          refine ev_iconst i_L_law_774 lt_i_0 ?_
          cases hf
          exact ev_zret i_L_law_775 rfl (by decide)
      rw [if_neg c33_15] at hf
      by_cases c33_16 : (v29 &&& (31 : Int32)) = 16
      · rw [if_pos c33_16] at hf
        refine ev_ts (tg := 776) 16 743 i_L_law_33 c33_16 (by decide) ?_
        refine ev_aload_n i_L_law_776 rfl ?_
        obtain ⟨r777, e777, hf⟩ := ob hf
        refine ev_cV_i i_L_law_777 lk_L_law_85 [] rfl rfl (by decide) (gK_of e777).1.1 (gK_of e777).1.2 (Nat.le_of_ble_eq_true rfl) (by decide) (e_X9_least e777) ?_
        refine ev_aload_n i_L_law_780 rfl ?_
        obtain ⟨r781, e781, hf⟩ := ob hf
        refine ev_cV_i i_L_law_781 lk_L_law_89 [] rfl rfl (by decide) (gK_of e781).1.1 (gK_of e781).1.2 (Nat.le_of_ble_eq_true rfl) (by decide) (e_X10_least e781) ?_
        refine ev_icmp_eq (tg := 1066) i_L_law_784 (by decide) (fun c784 => ?_) (fun c784 => ?_)
        · rw [if_pos c784] at hf
          refine ev_iinc (y := (x3 + (7 : Int32))) i_L_law_1066 rfl rfl (by decide) ?_
          refine ev_goto (tg := 18) i_L_law_1069 (by decide) ?_
          exact ih r781.2 (x3 + (7 : Int32)) _ hf
        · rw [if_neg c784] at hf
          refine ev_iconst i_L_law_787 lt_i_0 ?_
          cases hf
          exact ev_zret i_L_law_788 rfl (by decide)
      rw [if_neg c33_16] at hf
      by_cases c33_17 : (v29 &&& (31 : Int32)) = 17
      · rw [if_pos c33_17] at hf
        refine ev_ts (tg := 789) 17 756 i_L_law_33 c33_17 (by decide) ?_
        refine ev_aload_n i_L_law_789 rfl ?_
        obtain ⟨r790, e790, hf⟩ := ob hf
        refine ev_cV_i i_L_law_790 lk_L_law_90 [] rfl rfl (by decide) (gK_of e790).1.1 (gK_of e790).1.2 (Nat.le_of_ble_eq_true rfl) (by decide) (e_X9_orders e790) ?_
        refine ev_aload_n i_L_law_793 rfl ?_
        obtain ⟨r794, e794, hf⟩ := ob hf
        refine ev_cV_i i_L_law_794 lk_L_law_93 [] rfl rfl (by decide) (gK_of e794).1.1 (gK_of e794).1.2 (Nat.le_of_ble_eq_true rfl) (by decide) (e_X10_orders e794) ?_
        refine ev_icmp_eq (tg := 1066) i_L_law_797 (by decide) (fun c797 => ?_) (fun c797 => ?_)
        · rw [if_pos c797] at hf
          refine ev_iinc (y := (x3 + (7 : Int32))) i_L_law_1066 rfl rfl (by decide) ?_
          refine ev_goto (tg := 18) i_L_law_1069 (by decide) ?_
          exact ih r794.2 (x3 + (7 : Int32)) _ hf
        · rw [if_neg c797] at hf
          refine ev_iconst i_L_law_800 lt_i_0 ?_
          cases hf
          exact ev_zret i_L_law_801 rfl (by decide)
      rw [if_neg c33_17] at hf
      by_cases c33_18 : (v29 &&& (31 : Int32)) = 18
      · rw [if_pos c33_18] at hf
        refine ev_ts (tg := 802) 18 769 i_L_law_33 c33_18 (by decide) ?_
        refine ev_aload_n i_L_law_802 rfl ?_
        refine ev_aload_nS i_L_law_803 rfl ?_
        refine ev_iload_n i_L_law_804 rfl ?_
        refine ev_iconst i_L_law_805 lt_i_1 ?_
        refine ev_iadd i_L_law_806 ?_
        obtain ⟨v807, e807, hf⟩ := ob hf
        refine ev_sX rfl i_L_law_807 e807 ?_
        obtain ⟨r808, e808, hf⟩ := ob hf
        refine ev_cV_i i_L_law_808 lk_L_law_94 [.int v807] rfl rfl (by decide) (gK_of e808).1.1 (gK_of e808).1.2 (Nat.le_of_ble_eq_true rfl) (by decide) (e_X9_order e808) ?_
        refine ev_aload_n i_L_law_811 rfl ?_
        refine ev_aload_nS i_L_law_812 rfl ?_
        refine ev_iload_n i_L_law_813 rfl ?_
        refine ev_iconst i_L_law_814 lt_i_1 ?_
        refine ev_iadd i_L_law_815 ?_
        obtain ⟨v816, e816, hf⟩ := ob hf
        refine ev_sX rfl i_L_law_816 e816 ?_
        obtain ⟨r817, e817, hf⟩ := ob hf
        refine ev_cV_i i_L_law_817 lk_L_law_97 [.int v816] rfl rfl (by decide) (gK_of e817).1.1 (gK_of e817).1.2 (Nat.le_of_ble_eq_true rfl) (by decide) (e_X10_order e817) ?_
        refine ev_icmp_eq (tg := 1066) i_L_law_820 (by decide) (fun c820 => ?_) (fun c820 => ?_)
        · rw [if_pos c820] at hf
          refine ev_iinc (y := (x3 + (7 : Int32))) i_L_law_1066 rfl rfl (by decide) ?_
          refine ev_goto (tg := 18) i_L_law_1069 (by decide) ?_
          exact ih r817.2 (x3 + (7 : Int32)) _ hf
        · rw [if_neg c820] at hf
          refine ev_iconst i_L_law_823 lt_i_0 ?_
          cases hf
          exact ev_zret i_L_law_824 rfl (by decide)
      rw [if_neg c33_18] at hf
      by_cases c33_19 : (v29 &&& (31 : Int32)) = 19
      · rw [if_pos c33_19] at hf
        refine ev_ts (tg := 825) 19 792 i_L_law_33 c33_19 (by decide) ?_
        refine ev_aload_n i_L_law_825 rfl ?_
        refine ev_aload_nS i_L_law_826 rfl ?_
        refine ev_iload_n i_L_law_827 rfl ?_
        refine ev_iconst i_L_law_828 lt_i_1 ?_
        refine ev_iadd i_L_law_829 ?_
        obtain ⟨v830, e830, hf⟩ := ob hf
        refine ev_sX rfl i_L_law_830 e830 ?_
        obtain ⟨r831, e831, hf⟩ := ob hf
        refine ev_cV_i i_L_law_831 lk_L_law_98 [.int v830] rfl rfl (by decide) (gK_of e831).1.1 (gK_of e831).1.2 (Nat.le_of_ble_eq_true rfl) (by decide) (e_X9_round e831) ?_
        refine ev_aload_n i_L_law_834 rfl ?_
        refine ev_aload_nS i_L_law_835 rfl ?_
        refine ev_iload_n i_L_law_836 rfl ?_
        refine ev_iconst i_L_law_837 lt_i_1 ?_
        refine ev_iadd i_L_law_838 ?_
        obtain ⟨v839, e839, hf⟩ := ob hf
        refine ev_sX rfl i_L_law_839 e839 ?_
        obtain ⟨r840, e840, hf⟩ := ob hf
        refine ev_cV_i i_L_law_840 lk_L_law_101 [.int v839] rfl rfl (by decide) (gK_of e840).1.1 (gK_of e840).1.2 (Nat.le_of_ble_eq_true rfl) (by decide) (e_X10_round e840) ?_
        refine ev_icmp_eq (tg := 1066) i_L_law_843 (by decide) (fun c843 => ?_) (fun c843 => ?_)
        · rw [if_pos c843] at hf
          refine ev_iinc (y := (x3 + (7 : Int32))) i_L_law_1066 rfl rfl (by decide) ?_
          refine ev_goto (tg := 18) i_L_law_1069 (by decide) ?_
          exact ih r840.2 (x3 + (7 : Int32)) _ hf
        · rw [if_neg c843] at hf
          refine ev_iconst i_L_law_846 lt_i_0 ?_
          cases hf
          exact ev_zret i_L_law_847 rfl (by decide)
      rw [if_neg c33_19] at hf
      by_cases c33_20 : (v29 &&& (31 : Int32)) = 20
      · rw [if_pos c33_20] at hf
        refine ev_ts (tg := 848) 20 815 i_L_law_33 c33_20 (by decide) ?_
        refine ev_aload_n i_L_law_848 rfl ?_
        obtain ⟨h849, e849, hf⟩ := ob hf
        refine ev_cV_v i_L_law_849 lk_L_law_102 [] rfl rfl (by decide) (gK_of e849).1.1 (gK_of e849).1.2 (Nat.le_of_ble_eq_true rfl) (by decide) (e_X9_empty e849) ?_
        refine ev_aload_n i_L_law_852 rfl ?_
        obtain ⟨h853, e853, hf⟩ := ob hf
        refine ev_cV_v i_L_law_853 lk_L_law_105 [] rfl rfl (by decide) (gK_of e853).1.1 (gK_of e853).1.2 (Nat.le_of_ble_eq_true rfl) (by decide) (e_X10_empty e853) ?_
        refine ev_goto (tg := 1066) i_L_law_856 (by decide) ?_
        refine ev_iinc (y := (x3 + (7 : Int32))) i_L_law_1066 rfl rfl (by decide) ?_
        refine ev_goto (tg := 18) i_L_law_1069 (by decide) ?_
        exact ih h853 (x3 + (7 : Int32)) _ hf
      rw [if_neg c33_20] at hf
      by_cases c33_21 : (v29 &&& (31 : Int32)) = 21
      · rw [if_pos c33_21] at hf
        refine ev_ts (tg := 859) 21 826 i_L_law_33 c33_21 (by decide) ?_
        refine ev_aload_n i_L_law_859 rfl ?_
        refine ev_aload_nS i_L_law_860 rfl ?_
        refine ev_iload_n i_L_law_861 rfl ?_
        refine ev_iconst i_L_law_862 lt_i_1 ?_
        refine ev_iadd i_L_law_863 ?_
        obtain ⟨v864, e864, hf⟩ := ob hf
        refine ev_sX rfl i_L_law_864 e864 ?_
        obtain ⟨v865, e865, hf⟩ := ob hf
        refine ev_cV_i i_L_law_865 lk_L_law_106 [.int v864] rfl rfl (by decide) (gK_of e865).1.1 (gK_of e865).1.2 (Nat.le_of_ble_eq_true rfl) (by decide) (e_X9_plan e865) ?_
        refine ev_aload_n i_L_law_868 rfl ?_
        refine ev_aload_nS i_L_law_869 rfl ?_
        refine ev_iload_n i_L_law_870 rfl ?_
        refine ev_iconst i_L_law_871 lt_i_1 ?_
        refine ev_iadd i_L_law_872 ?_
        obtain ⟨v873, e873, hf⟩ := ob hf
        refine ev_sX rfl i_L_law_873 e873 ?_
        obtain ⟨v874, e874, hf⟩ := ob hf
        refine ev_cV_i i_L_law_874 lk_L_law_109 [.int v873] rfl rfl (by decide) (gK_of e874).1.1 (gK_of e874).1.2 (Nat.le_of_ble_eq_true rfl) (by decide) (e_X10_plan e874) ?_
        refine ev_icmp_eq (tg := 1066) i_L_law_877 (by decide) (fun c877 => ?_) (fun c877 => ?_)
        · rw [if_pos c877] at hf
          refine ev_iinc (y := (x3 + (7 : Int32))) i_L_law_1066 rfl rfl (by decide) ?_
          refine ev_goto (tg := 18) i_L_law_1069 (by decide) ?_
          exact ih h (x3 + (7 : Int32)) _ hf
        · rw [if_neg c877] at hf
          refine ev_iconst i_L_law_880 lt_i_0 ?_
          cases hf
          exact ev_zret i_L_law_881 rfl (by decide)
      rw [if_neg c33_21] at hf
      by_cases c33_22 : (v29 &&& (31 : Int32)) = 22
      · rw [if_pos c33_22] at hf
        refine ev_ts (tg := 882) 22 849 i_L_law_33 c33_22 (by decide) ?_
        refine ev_aload_n i_L_law_882 rfl ?_
        refine ev_aload_nS i_L_law_883 rfl ?_
        refine ev_iload_n i_L_law_884 rfl ?_
        refine ev_iconst i_L_law_885 lt_i_1 ?_
        refine ev_iadd i_L_law_886 ?_
        obtain ⟨v887, e887, hf⟩ := ob hf
        refine ev_sX rfl i_L_law_887 e887 ?_
        obtain ⟨r888, e888, hf⟩ := ob hf
        refine ev_cV_i i_L_law_888 lk_L_law_110 [.int v887] rfl rfl (by decide) (gK_of e888).1.1 (gK_of e888).1.2 (Nat.le_of_ble_eq_true rfl) (by decide) (e_X9_mid e888) ?_
        refine ev_aload_n i_L_law_891 rfl ?_
        refine ev_aload_nS i_L_law_892 rfl ?_
        refine ev_iload_n i_L_law_893 rfl ?_
        refine ev_iconst i_L_law_894 lt_i_1 ?_
        refine ev_iadd i_L_law_895 ?_
        obtain ⟨v896, e896, hf⟩ := ob hf
        refine ev_sX rfl i_L_law_896 e896 ?_
        obtain ⟨r897, e897, hf⟩ := ob hf
        refine ev_cV_i i_L_law_897 lk_L_law_113 [.int v896] rfl rfl (by decide) (gK_of e897).1.1 (gK_of e897).1.2 (Nat.le_of_ble_eq_true rfl) (by decide) (e_X10_mid e897) ?_
        refine ev_icmp_eq (tg := 1066) i_L_law_900 (by decide) (fun c900 => ?_) (fun c900 => ?_)
        · rw [if_pos c900] at hf
          refine ev_iinc (y := (x3 + (7 : Int32))) i_L_law_1066 rfl rfl (by decide) ?_
          refine ev_goto (tg := 18) i_L_law_1069 (by decide) ?_
          exact ih r897.2 (x3 + (7 : Int32)) _ hf
        · rw [if_neg c900] at hf
          refine ev_iconst i_L_law_903 lt_i_0 ?_
          cases hf
          exact ev_zret i_L_law_904 rfl (by decide)
      rw [if_neg c33_22] at hf
      by_cases c33_23 : (v29 &&& (31 : Int32)) = 23
      · rw [if_pos c33_23] at hf
        refine ev_ts (tg := 905) 23 872 i_L_law_33 c33_23 (by decide) ?_
        refine ev_aload_n i_L_law_905 rfl ?_
        obtain ⟨r906, e906, hf⟩ := ob hf
        refine ev_cV_i i_L_law_906 lk_L_law_114 [] rfl rfl (by decide) (gK_of e906).1.1 (gK_of e906).1.2 (Nat.le_of_ble_eq_true rfl) (by decide) (e_X9_begin e906) ?_
        refine ev_aload_n i_L_law_909 rfl ?_
        obtain ⟨r910, e910, hf⟩ := ob hf
        refine ev_cV_i i_L_law_910 lk_L_law_118 [] rfl rfl (by decide) (gK_of e910).1.1 (gK_of e910).1.2 (Nat.le_of_ble_eq_true rfl) (by decide) (e_X10_begin e910) ?_
        refine ev_icmp_eq (tg := 1066) i_L_law_913 (by decide) (fun c913 => ?_) (fun c913 => ?_)
        · rw [if_pos c913] at hf
          refine ev_iinc (y := (x3 + (7 : Int32))) i_L_law_1066 rfl rfl (by decide) ?_
          refine ev_goto (tg := 18) i_L_law_1069 (by decide) ?_
          exact ih r910.2 (x3 + (7 : Int32)) _ hf
        · rw [if_neg c913] at hf
          refine ev_iconst i_L_law_916 lt_i_0 ?_
          cases hf
          exact ev_zret i_L_law_917 rfl (by decide)
      rw [if_neg c33_23] at hf
      by_cases c33_24 : (v29 &&& (31 : Int32)) = 24
      · rw [if_pos c33_24] at hf
        refine ev_ts (tg := 918) 24 885 i_L_law_33 c33_24 (by decide) ?_
        refine ev_aload_n i_L_law_918 rfl ?_
        refine ev_aload_nS i_L_law_919 rfl ?_
        refine ev_iload_n i_L_law_920 rfl ?_
        refine ev_iconst i_L_law_921 lt_i_1 ?_
        refine ev_iadd i_L_law_922 ?_
        obtain ⟨v923, e923, hf⟩ := ob hf
        refine ev_sX rfl i_L_law_923 e923 ?_
        refine ev_aload_nS i_L_law_924 rfl ?_
        refine ev_iload_n i_L_law_925 rfl ?_
        refine ev_iconst i_L_law_926 lt_i_2 ?_
        refine ev_iadd i_L_law_927 ?_
        obtain ⟨v928, e928, hf⟩ := ob hf
        refine ev_sX rfl i_L_law_928 e928 ?_
        obtain ⟨r929, e929, hf⟩ := ob hf
        refine ev_cV_i i_L_law_929 lk_L_law_119 [.int v923, .int v928] rfl rfl (by decide) (gK_of e929).1.1 (gK_of e929).1.2 (Nat.le_of_ble_eq_true rfl) (by decide) (e_X9_send e929) ?_
        refine ev_aload_n i_L_law_932 rfl ?_
        refine ev_aload_nS i_L_law_933 rfl ?_
        refine ev_iload_n i_L_law_934 rfl ?_
        refine ev_iconst i_L_law_935 lt_i_1 ?_
        refine ev_iadd i_L_law_936 ?_
        obtain ⟨v937, e937, hf⟩ := ob hf
        refine ev_sX rfl i_L_law_937 e937 ?_
        refine ev_aload_nS i_L_law_938 rfl ?_
        refine ev_iload_n i_L_law_939 rfl ?_
        refine ev_iconst i_L_law_940 lt_i_2 ?_
        refine ev_iadd i_L_law_941 ?_
        obtain ⟨v942, e942, hf⟩ := ob hf
        refine ev_sX rfl i_L_law_942 e942 ?_
        obtain ⟨r943, e943, hf⟩ := ob hf
        refine ev_cV_i i_L_law_943 lk_L_law_122 [.int v937, .int v942] rfl rfl (by decide) (gK_of e943).1.1 (gK_of e943).1.2 (Nat.le_of_ble_eq_true rfl) (by decide) (e_X10_send e943) ?_
        refine ev_icmp_eq (tg := 1066) i_L_law_946 (by decide) (fun c946 => ?_) (fun c946 => ?_)
        · rw [if_pos c946] at hf
          refine ev_iinc (y := (x3 + (7 : Int32))) i_L_law_1066 rfl rfl (by decide) ?_
          refine ev_goto (tg := 18) i_L_law_1069 (by decide) ?_
          exact ih r943.2 (x3 + (7 : Int32)) _ hf
        · rw [if_neg c946] at hf
          refine ev_iconst i_L_law_949 lt_i_0 ?_
          cases hf
          exact ev_zret i_L_law_950 rfl (by decide)
      rw [if_neg c33_24] at hf
      by_cases c33_25 : (v29 &&& (31 : Int32)) = 25
      · rw [if_pos c33_25] at hf
        refine ev_ts (tg := 951) 25 918 i_L_law_33 c33_25 (by decide) ?_
        refine ev_aload_n i_L_law_951 rfl ?_
        refine ev_aload_nS i_L_law_952 rfl ?_
        refine ev_iload_n i_L_law_953 rfl ?_
        refine ev_iconst i_L_law_954 lt_i_1 ?_
        refine ev_iadd i_L_law_955 ?_
        obtain ⟨v956, e956, hf⟩ := ob hf
        refine ev_sX rfl i_L_law_956 e956 ?_
        obtain ⟨r957, e957, hf⟩ := ob hf
        refine ev_cV_i i_L_law_957 lk_L_law_123 [.int v956] rfl rfl (by decide) (gK_of e957).1.1 (gK_of e957).1.2 (Nat.le_of_ble_eq_true rfl) (by decide) (e_X9_hop e957) ?_
        refine ev_aload_n i_L_law_960 rfl ?_
        refine ev_aload_nS i_L_law_961 rfl ?_
        refine ev_iload_n i_L_law_962 rfl ?_
        refine ev_iconst i_L_law_963 lt_i_1 ?_
        refine ev_iadd i_L_law_964 ?_
        obtain ⟨v965, e965, hf⟩ := ob hf
        refine ev_sX rfl i_L_law_965 e965 ?_
        obtain ⟨r966, e966, hf⟩ := ob hf
        refine ev_cV_i i_L_law_966 lk_L_law_126 [.int v965] rfl rfl (by decide) (gK_of e966).1.1 (gK_of e966).1.2 (Nat.le_of_ble_eq_true rfl) (by decide) (e_X10_hop e966) ?_
        refine ev_icmp_eq (tg := 1066) i_L_law_969 (by decide) (fun c969 => ?_) (fun c969 => ?_)
        · rw [if_pos c969] at hf
          refine ev_iinc (y := (x3 + (7 : Int32))) i_L_law_1066 rfl rfl (by decide) ?_
          refine ev_goto (tg := 18) i_L_law_1069 (by decide) ?_
          exact ih r966.2 (x3 + (7 : Int32)) _ hf
        · rw [if_neg c969] at hf
          refine ev_iconst i_L_law_972 lt_i_0 ?_
          cases hf
          exact ev_zret i_L_law_973 rfl (by decide)
      rw [if_neg c33_25] at hf
      by_cases c33_26 : (v29 &&& (31 : Int32)) = 26
      · rw [if_pos c33_26] at hf
        refine ev_ts (tg := 974) 26 941 i_L_law_33 c33_26 (by decide) ?_
        refine ev_aload_n i_L_law_974 rfl ?_
        refine ev_aload_nS i_L_law_975 rfl ?_
        refine ev_iload_n i_L_law_976 rfl ?_
        refine ev_iconst i_L_law_977 lt_i_1 ?_
        refine ev_iadd i_L_law_978 ?_
        obtain ⟨v979, e979, hf⟩ := ob hf
        refine ev_sX rfl i_L_law_979 e979 ?_
        obtain ⟨r980, e980, hf⟩ := ob hf
        refine ev_cV_i i_L_law_980 lk_L_law_127 [.int v979] rfl rfl (by decide) (gK_of e980).1.1 (gK_of e980).1.2 (Nat.le_of_ble_eq_true rfl) (by decide) (e_X9_change e980) ?_
        refine ev_aload_n i_L_law_983 rfl ?_
        refine ev_aload_nS i_L_law_984 rfl ?_
        refine ev_iload_n i_L_law_985 rfl ?_
        refine ev_iconst i_L_law_986 lt_i_1 ?_
        refine ev_iadd i_L_law_987 ?_
        obtain ⟨v988, e988, hf⟩ := ob hf
        refine ev_sX rfl i_L_law_988 e988 ?_
        obtain ⟨r989, e989, hf⟩ := ob hf
        refine ev_cV_i i_L_law_989 lk_L_law_130 [.int v988] rfl rfl (by decide) (gK_of e989).1.1 (gK_of e989).1.2 (Nat.le_of_ble_eq_true rfl) (by decide) (e_X10_change e989) ?_
        refine ev_icmp_eq (tg := 1066) i_L_law_992 (by decide) (fun c992 => ?_) (fun c992 => ?_)
        · rw [if_pos c992] at hf
          refine ev_iinc (y := (x3 + (7 : Int32))) i_L_law_1066 rfl rfl (by decide) ?_
          refine ev_goto (tg := 18) i_L_law_1069 (by decide) ?_
          exact ih r989.2 (x3 + (7 : Int32)) _ hf
        · rw [if_neg c992] at hf
          refine ev_iconst i_L_law_995 lt_i_0 ?_
          cases hf
          exact ev_zret i_L_law_996 rfl (by decide)
      rw [if_neg c33_26] at hf
      by_cases c33_27 : (v29 &&& (31 : Int32)) = 27
      · rw [if_pos c33_27] at hf
        refine ev_ts (tg := 997) 27 964 i_L_law_33 c33_27 (by decide) ?_
        refine ev_aload_n i_L_law_997 rfl ?_
        obtain ⟨r998, e998, hf⟩ := ob hf
        refine ev_cV_i i_L_law_998 lk_L_law_131 [] rfl rfl (by decide) (gK_of e998).1.1 (gK_of e998).1.2 (Nat.le_of_ble_eq_true rfl) (by decide) (e_X9_next e998) ?_
        refine ev_aload_n i_L_law_1001 rfl ?_
        obtain ⟨r1002, e1002, hf⟩ := ob hf
        refine ev_cV_i i_L_law_1002 lk_L_law_134 [] rfl rfl (by decide) (gK_of e1002).1.1 (gK_of e1002).1.2 (Nat.le_of_ble_eq_true rfl) (by decide) (e_X10_next e1002) ?_
        refine ev_icmp_eq (tg := 1066) i_L_law_1005 (by decide) (fun c1005 => ?_) (fun c1005 => ?_)
        · rw [if_pos c1005] at hf
          refine ev_iinc (y := (x3 + (7 : Int32))) i_L_law_1066 rfl rfl (by decide) ?_
          refine ev_goto (tg := 18) i_L_law_1069 (by decide) ?_
          exact ih r1002.2 (x3 + (7 : Int32)) _ hf
        · rw [if_neg c1005] at hf
          refine ev_iconst i_L_law_1008 lt_i_0 ?_
          cases hf
          exact ev_zret i_L_law_1009 rfl (by decide)
      rw [if_neg c33_27] at hf
      by_cases c33_28 : (v29 &&& (31 : Int32)) = 28
      · rw [if_pos c33_28] at hf
        refine ev_ts (tg := 1010) 28 977 i_L_law_33 c33_28 (by decide) ?_
        refine ev_aload_n i_L_law_1010 rfl ?_
        refine ev_aload_nS i_L_law_1011 rfl ?_
        refine ev_iload_n i_L_law_1012 rfl ?_
        refine ev_iconst i_L_law_1013 lt_i_1 ?_
        refine ev_iadd i_L_law_1014 ?_
        obtain ⟨v1015, e1015, hf⟩ := ob hf
        refine ev_sX rfl i_L_law_1015 e1015 ?_
        obtain ⟨v1016, e1016, hf⟩ := ob hf
        refine ev_cV_i i_L_law_1016 lk_L_law_135 [.int v1015] rfl rfl (by decide) (gK_of e1016).1.1 (gK_of e1016).1.2 (Nat.le_of_ble_eq_true rfl) (by decide) (e_X9_run e1016) ?_
        refine ev_aload_n i_L_law_1019 rfl ?_
        refine ev_aload_nS i_L_law_1020 rfl ?_
        refine ev_iload_n i_L_law_1021 rfl ?_
        refine ev_iconst i_L_law_1022 lt_i_1 ?_
        refine ev_iadd i_L_law_1023 ?_
        obtain ⟨v1024, e1024, hf⟩ := ob hf
        refine ev_sX rfl i_L_law_1024 e1024 ?_
        obtain ⟨v1025, e1025, hf⟩ := ob hf
        refine ev_cV_i i_L_law_1025 lk_L_law_138 [.int v1024] rfl rfl (by decide) (gK_of e1025).1.1 (gK_of e1025).1.2 (Nat.le_of_ble_eq_true rfl) (by decide) (e_X10_run e1025) ?_
        refine ev_icmp_eq (tg := 1066) i_L_law_1028 (by decide) (fun c1028 => ?_) (fun c1028 => ?_)
        · rw [if_pos c1028] at hf
          refine ev_iinc (y := (x3 + (7 : Int32))) i_L_law_1066 rfl rfl (by decide) ?_
          refine ev_goto (tg := 18) i_L_law_1069 (by decide) ?_
          exact ih h (x3 + (7 : Int32)) _ hf
        · rw [if_neg c1028] at hf
          refine ev_iconst i_L_law_1031 lt_i_0 ?_
          cases hf
          exact ev_zret i_L_law_1032 rfl (by decide)
      rw [if_neg c33_28] at hf
      by_cases c33_29 : (v29 &&& (31 : Int32)) = 29
      · rw [if_pos c33_29] at hf
        refine ev_ts (tg := 1033) 29 1000 i_L_law_33 c33_29 (by decide) ?_
        refine ev_aload_n i_L_law_1033 rfl ?_
        refine ev_aload_nS i_L_law_1034 rfl ?_
        refine ev_iload_n i_L_law_1035 rfl ?_
        refine ev_iconst i_L_law_1036 lt_i_1 ?_
        refine ev_iadd i_L_law_1037 ?_
        obtain ⟨v1038, e1038, hf⟩ := ob hf
        refine ev_sX rfl i_L_law_1038 e1038 ?_
        refine ev_aload_nS i_L_law_1039 rfl ?_
        refine ev_iload_n i_L_law_1040 rfl ?_
        refine ev_iconst i_L_law_1041 lt_i_2 ?_
        refine ev_iadd i_L_law_1042 ?_
        obtain ⟨v1043, e1043, hf⟩ := ob hf
        refine ev_sX rfl i_L_law_1043 e1043 ?_
        obtain ⟨v1044, e1044, hf⟩ := ob hf
        refine ev_cV_i i_L_law_1044 lk_L_law_139 [.int v1038, .int v1043] rfl rfl (by decide) (gK_of e1044).1.1 (gK_of e1044).1.2 (Nat.le_of_ble_eq_true rfl) (by decide) (e_X9_packet e1044) ?_
        refine ev_aload_n i_L_law_1047 rfl ?_
        refine ev_aload_nS i_L_law_1048 rfl ?_
        refine ev_iload_n i_L_law_1049 rfl ?_
        refine ev_iconst i_L_law_1050 lt_i_1 ?_
        refine ev_iadd i_L_law_1051 ?_
        obtain ⟨v1052, e1052, hf⟩ := ob hf
        refine ev_sX rfl i_L_law_1052 e1052 ?_
        refine ev_aload_nS i_L_law_1053 rfl ?_
        refine ev_iload_n i_L_law_1054 rfl ?_
        refine ev_iconst i_L_law_1055 lt_i_2 ?_
        refine ev_iadd i_L_law_1056 ?_
        obtain ⟨v1057, e1057, hf⟩ := ob hf
        refine ev_sX rfl i_L_law_1057 e1057 ?_
        obtain ⟨v1058, e1058, hf⟩ := ob hf
        refine ev_cV_i i_L_law_1058 lk_L_law_142 [.int v1052, .int v1057] rfl rfl (by decide) (gK_of e1058).1.1 (gK_of e1058).1.2 (Nat.le_of_ble_eq_true rfl) (by decide) (e_X10_packet e1058) ?_
        refine ev_icmp_eq (tg := 1066) i_L_law_1061 (by decide) (fun c1061 => ?_) (fun c1061 => ?_)
        · rw [if_pos c1061] at hf
          refine ev_iinc (y := (x3 + (7 : Int32))) i_L_law_1066 rfl rfl (by decide) ?_
          refine ev_goto (tg := 18) i_L_law_1069 (by decide) ?_
          exact ih h (x3 + (7 : Int32)) _ hf
        · rw [if_neg c1061] at hf
          refine ev_iconst i_L_law_1064 lt_i_0 ?_
          cases hf
          exact ev_zret i_L_law_1065 rfl (by decide)
      rw [if_neg c33_29] at hf
      refine ev_tsOut (tg := 1066) i_L_law_33 (ts_out (n := 29) (by decide) (fun k hk => by rcases (show k = 0 ∨ k = 1 ∨ k = 2 ∨ k = 3 ∨ k = 4 ∨ k = 5 ∨ k = 6 ∨ k = 7 ∨ k = 8 ∨ k = 9 ∨ k = 10 ∨ k = 11 ∨ k = 12 ∨ k = 13 ∨ k = 14 ∨ k = 15 ∨ k = 16 ∨ k = 17 ∨ k = 18 ∨ k = 19 ∨ k = 20 ∨ k = 21 ∨ k = 22 ∨ k = 23 ∨ k = 24 ∨ k = 25 ∨ k = 26 ∨ k = 27 ∨ k = 28 ∨ k = 29 by omega) with rfl | rfl | rfl | rfl | rfl | rfl | rfl | rfl | rfl | rfl | rfl | rfl | rfl | rfl | rfl | rfl | rfl | rfl | rfl | rfl | rfl | rfl | rfl | rfl | rfl | rfl | rfl | rfl | rfl | rfl <;> assumption)) (by decide) ?_
      refine ev_iinc (y := (x3 + (7 : Int32))) i_L_law_1066 rfl rfl (by decide) ?_
      refine ev_goto (tg := 18) i_L_law_1069 (by decide) ?_
      exact ih h (x3 + (7 : Int32)) _ hf
def f_L_law (L : Nat) (xs : Nat → Int32) (h : MH) : Option (Int32 × MH) := (f_X9_init (mm_no h 9) (mm_N h)).bind fun h4 => (f_X10_init (mm_no h4 10) (mm_N h4)).bind fun h12 => f_L_law_L18 (fun he1072 => some ((1 : Int32), he1072)) L xs (mm_N h) (mm_N h4) fuel h12 (0 : Int32)
set_option maxRecDepth 20000 in
theorem e_L_law {G : GG} {h : MH} {r : (Int32 × MH)} (hf : f_L_law (gg_L G) (gg_x G) h = some r) : Ev G 13 M_L_law 0 (ent M_L_law [.long 0]) [] h (some (.int r.1)) r.2 := by
  unfold f_L_law at hf
  show Ev G 13 M_L_law 0 [some (.long 0), none, none, none] [] h (some (.int r.1)) r.2
  refine ev_new i_L_law_0 nc_L_7 ?_
  refine ev_dup i_L_law_3 ?_
  obtain ⟨h4, e4, hf⟩ := ob hf
  refine ev_cI_v i_L_law_4 lk_L_law_9 [] rfl rfl (by decide) (Nat.le_of_ble_eq_true rfl) (by decide) (e_X9_init e4) ?_
  refine ev_astore_n i_L_law_7 (by decide) ?_
  refine ev_new i_L_law_8 nc_L_10 ?_
  refine ev_dup i_L_law_11 ?_
  obtain ⟨h12, e12, hf⟩ := ob hf
  refine ev_cI_v i_L_law_12 lk_L_law_12 [] rfl rfl (by decide) (Nat.le_of_ble_eq_true rfl) (by decide) (e_X10_init e12) ?_
  refine ev_astore_n i_L_law_15 (by decide) ?_
  refine ev_iconst i_L_law_16 lt_i_0 ?_
  refine ev_istore_n i_L_law_17 (by decide) ?_
  exact l_L_law_18 (fun he1072 r hf => by
    refine ev_iconst i_L_law_1072 lt_i_1 ?_
    cases hf
    exact ev_zret i_L_law_1073 rfl (by decide)) fuel h12 (0 : Int32) _ hf

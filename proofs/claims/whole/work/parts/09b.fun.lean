/-! ===== methods as functions ===== -/
def f_X7_init (h : MH) (a0 : Nat) (x1 : Int32) (x2 : Int32) (x3 : Int32) (x4 : Int32) (x5 : Int32) (x6 : Int32) : Option MH := (pI h a0 7 0 x1).bind fun h6 => (pI h6 a0 7 1 x2).bind fun h11 => (pI h11 a0 7 2 x3).bind fun h16 => (pI h16 a0 7 3 x4).bind fun h22 => (pI h22 a0 7 4 x5).bind fun h28 => (pI h28 a0 7 5 x6).bind fun h34 => some h34
set_option maxRecDepth 20000 in
theorem e_X7_init {G : GG} {h : MH} {a0 : Nat} {x1 : Int32} {x2 : Int32} {x3 : Int32} {x4 : Int32} {x5 : Int32} {x6 : Int32} {r : MH} (hf : f_X7_init h a0 x1 x2 x3 x4 x5 x6 = some r) : Ev G 1 M_X7_init 0 (ent M_X7_init [.ref a0, .int x1, .int x2, .int x3, .int x4, .int x5, .int x6]) [] h none r := by
  unfold f_X7_init at hf
  show Ev G 1 M_X7_init 0 [some (.ref a0), some (.int x1), some (.int x2), some (.int x3), some (.int x4), some (.int x5), some (.int x6)] [] h none r
  refine ev_aload_n i_X7_init_0 rfl ?_
  refine ev_objI i_X7_init_1 ml_X7_3 go_1 go_2 (Nat.le_of_ble_eq_true rfl) (by decide) ?_
  refine ev_aload_n i_X7_init_4 rfl ?_
  refine ev_iload_n i_X7_init_5 rfl ?_
  obtain ⟨h6, e6, hf⟩ := ob hf
  refine ev_pI i_X7_init_6 fp_X7_init_9 rfl e6 ?_
  refine ev_aload_n i_X7_init_9 rfl ?_
  refine ev_iload_n i_X7_init_10 rfl ?_
  obtain ⟨h11, e11, hf⟩ := ob hf
  refine ev_pI i_X7_init_11 fp_X7_init_15 rfl e11 ?_
  refine ev_aload_n i_X7_init_14 rfl ?_
  refine ev_iload_n i_X7_init_15 rfl ?_
  obtain ⟨h16, e16, hf⟩ := ob hf
  refine ev_pI i_X7_init_16 fp_X7_init_18 rfl e16 ?_
  refine ev_aload_n i_X7_init_19 rfl ?_
  refine ev_iload i_X7_init_20 rfl ?_
  obtain ⟨h22, e22, hf⟩ := ob hf
  refine ev_pI i_X7_init_22 fp_X7_init_21 rfl e22 ?_
  refine ev_aload_n i_X7_init_25 rfl ?_
  refine ev_iload i_X7_init_26 rfl ?_
  obtain ⟨h28, e28, hf⟩ := ob hf
  refine ev_pI i_X7_init_28 fp_X7_init_24 rfl e28 ?_
  refine ev_aload_n i_X7_init_31 rfl ?_
  refine ev_iload i_X7_init_32 rfl ?_
  obtain ⟨h34, e34, hf⟩ := ob hf
  refine ev_pI i_X7_init_34 fp_X7_init_27 rfl e34 ?_
  cases hf
  exact ev_vret i_X7_init_37 rfl
def f_X9_hasTarget (h : MH) (x0 : Int32) : Option Int32 := (if x0 = 0 then (some (1 : Int32)) else ((if x0 = (2 : Int32) then (some (1 : Int32)) else ((if x0 = (3 : Int32) then (some (1 : Int32)) else (some (0 : Int32)))))))
set_option maxRecDepth 20000 in
theorem e_X9_hasTarget {G : GG} {h : MH} {x0 : Int32} {r : Int32} (hf : f_X9_hasTarget h x0 = some r) : Ev G 0 M_X9_hasTarget 0 (ent M_X9_hasTarget [.int x0]) [] h (some (.int r)) h := by
  unfold f_X9_hasTarget at hf
  show Ev G 0 M_X9_hasTarget 0 [some (.int x0)] [] h (some (.int r)) h
  refine ev_iload_n i_X9_hasTarget_0 rfl ?_
  refine ev_if_eq (tg := 14) i_X9_hasTarget_1 (by decide) (fun c1 => ?_) (fun c1 => ?_)
  · rw [if_pos c1] at hf
    refine ev_iconst i_X9_hasTarget_14 lt_i_1 ?_
    refine ev_goto (tg := 19) i_X9_hasTarget_15 (by decide) ?_
    cases hf
    exact ev_zret i_X9_hasTarget_19 rfl (by decide)
  · rw [if_neg c1] at hf
    refine ev_iload_n i_X9_hasTarget_4 rfl ?_
    refine ev_iconst i_X9_hasTarget_5 lt_i_2 ?_
    refine ev_icmp_eq (tg := 14) i_X9_hasTarget_6 (by decide) (fun c6 => ?_) (fun c6 => ?_)
    · rw [if_pos c6] at hf
      refine ev_iconst i_X9_hasTarget_14 lt_i_1 ?_
      refine ev_goto (tg := 19) i_X9_hasTarget_15 (by decide) ?_
      cases hf
      exact ev_zret i_X9_hasTarget_19 rfl (by decide)
    · rw [if_neg c6] at hf
      refine ev_iload_n i_X9_hasTarget_9 rfl ?_
      refine ev_iconst i_X9_hasTarget_10 lt_i_3 ?_
      refine ev_icmp_ne (tg := 18) i_X9_hasTarget_11 (by decide) (fun c11 => ?_) (fun c11 => ?_)
      · rw [if_neg c11] at hf
        refine ev_iconst i_X9_hasTarget_18 lt_i_0 ?_
        cases hf
        exact ev_zret i_X9_hasTarget_19 rfl (by decide)
      · rw [if_pos c11] at hf
        refine ev_iconst i_X9_hasTarget_14 lt_i_1 ?_
        refine ev_goto (tg := 19) i_X9_hasTarget_15 (by decide) ?_
        cases hf
        exact ev_zret i_X9_hasTarget_19 rfl (by decide)
def f_X7_needsHost (h : MH) (a0 : Nat) (x1 : Int32) : Option Int32 := gK h a0 7 ((gI h a0 7 3).bind fun v1 => (if v1 = x1 then (some (1 : Int32)) else ((gI h a0 7 0).bind fun v9 => (f_X9_hasTarget h v9).bind fun v12 => (if v12 = 0 then (some (0 : Int32)) else ((gI h a0 7 4).bind fun v19 => (if v19 = x1 then (some (1 : Int32)) else (some (0 : Int32))))))))
set_option maxRecDepth 20000 in
theorem e_X7_needsHost {G : GG} {h : MH} {a0 : Nat} {x1 : Int32} {r : Int32} (hf : f_X7_needsHost h a0 x1 = some r) : Ev G 1 M_X7_needsHost 0 (ent M_X7_needsHost [.ref a0, .int x1]) [] h (some (.int r)) h := by
  unfold f_X7_needsHost at hf
  show Ev G 1 M_X7_needsHost 0 [some (.ref a0), some (.int x1)] [] h (some (.int r)) h
  obtain ⟨-, hf⟩ := gK_of hf
  refine ev_aload_n i_X7_needsHost_0 rfl ?_
  obtain ⟨v1, e1, hf⟩ := ob hf
  refine ev_gI i_X7_needsHost_1 fl_X7_21 rfl e1 ?_
  refine ev_iload_n i_X7_needsHost_4 rfl ?_
  refine ev_icmp_eq (tg := 26) i_X7_needsHost_5 (by decide) (fun c5 => ?_) (fun c5 => ?_)
  · rw [if_pos c5] at hf
    refine ev_iconst i_X7_needsHost_26 lt_i_1 ?_
    refine ev_goto (tg := 31) i_X7_needsHost_27 (by decide) ?_
    cases hf
    exact ev_zret i_X7_needsHost_31 rfl (by decide)
  · rw [if_neg c5] at hf
    refine ev_aload_n i_X7_needsHost_8 rfl ?_
    obtain ⟨v9, e9, hf⟩ := ob hf
    refine ev_gI i_X7_needsHost_9 fl_X7_9 rfl e9 ?_
    obtain ⟨v12, e12, hf⟩ := ob hf
    refine ev_cS_i i_X7_needsHost_12 lk_X7_needsHost_30 [.int v9] rfl rfl (by decide) (Nat.le_of_ble_eq_true rfl) (by decide) (e_X9_hasTarget e12) ?_
    refine ev_if_eq (tg := 30) i_X7_needsHost_15 (by decide) (fun c15 => ?_) (fun c15 => ?_)
    · rw [if_pos c15] at hf
      refine ev_iconst i_X7_needsHost_30 lt_i_0 ?_
      cases hf
      exact ev_zret i_X7_needsHost_31 rfl (by decide)
    · rw [if_neg c15] at hf
      refine ev_aload_n i_X7_needsHost_18 rfl ?_
      obtain ⟨v19, e19, hf⟩ := ob hf
      refine ev_gI i_X7_needsHost_19 fl_X7_24 rfl e19 ?_
      refine ev_iload_n i_X7_needsHost_22 rfl ?_
      refine ev_icmp_ne (tg := 30) i_X7_needsHost_23 (by decide) (fun c23 => ?_) (fun c23 => ?_)
      · rw [if_neg c23] at hf
        refine ev_iconst i_X7_needsHost_30 lt_i_0 ?_
        cases hf
        exact ev_zret i_X7_needsHost_31 rfl (by decide)
      · rw [if_pos c23] at hf
        refine ev_iconst i_X7_needsHost_26 lt_i_1 ?_
        refine ev_goto (tg := 31) i_X7_needsHost_27 (by decide) ?_
        cases hf
        exact ev_zret i_X7_needsHost_31 rfl (by decide)
def f_X7_hasMark (h : MH) (a0 : Nat) (x1 : Int32) : Option Int32 := gK h a0 7 ((gI h a0 7 1).bind fun v1 => (gI h a0 7 2).bind fun v5 => (f_X9_spanHas h v1 v5 x1).bind fun v9 => zR v9)
set_option maxRecDepth 20000 in
theorem e_X7_hasMark {G : GG} {h : MH} {a0 : Nat} {x1 : Int32} {r : Int32} (hf : f_X7_hasMark h a0 x1 = some r) : Ev G 1 M_X7_hasMark 0 (ent M_X7_hasMark [.ref a0, .int x1]) [] h (some (.int r)) h := by
  unfold f_X7_hasMark at hf
  show Ev G 1 M_X7_hasMark 0 [some (.ref a0), some (.int x1)] [] h (some (.int r)) h
  obtain ⟨-, hf⟩ := gK_of hf
  refine ev_aload_n i_X7_hasMark_0 rfl ?_
  obtain ⟨v1, e1, hf⟩ := ob hf
  refine ev_gI i_X7_hasMark_1 fl_X7_15 rfl e1 ?_
  refine ev_aload_n i_X7_hasMark_4 rfl ?_
  obtain ⟨v5, e5, hf⟩ := ob hf
  refine ev_gI i_X7_hasMark_5 fl_X7_18 rfl e5 ?_
  refine ev_iload_n i_X7_hasMark_8 rfl ?_
  obtain ⟨v9, e9, hf⟩ := ob hf
  refine ev_cS_i i_X7_hasMark_9 lk_X7_hasMark_34 [.int v1, .int v5, .int x1] rfl rfl (by decide) (Nat.le_of_ble_eq_true rfl) (by decide) (e_X9_spanHas e9) ?_
  obtain ⟨hz, rfl⟩ := zR_of hf
  exact ev_zret i_X7_hasMark_12 rfl hz
def f_X1_switchOf (h : MH) (a0 : Nat) (x1 : Int32) : Option Int32 := gK h a0 1 ((if x1 < 0 then (some (0 : Int32)) else ((gI h a0 1 7).bind fun v6 => (if v6 ≤ x1 then (some (0 : Int32)) else ((gR h a0 1 1).bind fun b13 => (aI h b13 x1).bind fun v17 => some v17)))))
set_option maxRecDepth 20000 in
theorem e_X1_switchOf {G : GG} {h : MH} {a0 : Nat} {x1 : Int32} {r : Int32} (hf : f_X1_switchOf h a0 x1 = some r) : Ev G 0 M_X1_switchOf 0 (ent M_X1_switchOf [.ref a0, .int x1]) [] h (some (.int r)) h := by
  unfold f_X1_switchOf at hf
  show Ev G 0 M_X1_switchOf 0 [some (.ref a0), some (.int x1)] [] h (some (.int r)) h
  obtain ⟨-, hf⟩ := gK_of hf
  refine ev_iload_n i_X1_switchOf_0 rfl ?_
  refine ev_if_lt (tg := 21) i_X1_switchOf_1 (by decide) (fun c1 => ?_) (fun c1 => ?_)
  · rw [if_pos c1] at hf
    refine ev_iconst i_X1_switchOf_21 lt_i_0 ?_
    cases hf
    exact ev_iiret i_X1_switchOf_22 rfl
  · rw [if_neg c1] at hf
    refine ev_iload_n i_X1_switchOf_4 rfl ?_
    refine ev_aload_n i_X1_switchOf_5 rfl ?_
    obtain ⟨v6, e6, hf⟩ := ob hf
    refine ev_gI i_X1_switchOf_6 fl_X1_38 rfl e6 ?_
    refine ev_icmp_ge (tg := 21) i_X1_switchOf_9 (by decide) (fun c9 => ?_) (fun c9 => ?_)
    · rw [if_pos c9] at hf
      refine ev_iconst i_X1_switchOf_21 lt_i_0 ?_
      cases hf
      exact ev_iiret i_X1_switchOf_22 rfl
    · rw [if_neg c9] at hf
      refine ev_aload_n i_X1_switchOf_12 rfl ?_
      obtain ⟨b13, e13, hf⟩ := ob hf
      refine ev_gR i_X1_switchOf_13 fl_X1_15 rfl e13 ?_
      refine ev_iload_n i_X1_switchOf_16 rfl ?_
      obtain ⟨v17, e17, hf⟩ := ob hf
      refine ev_aI i_X1_switchOf_17 e17 ?_
      refine ev_goto (tg := 22) i_X1_switchOf_18 (by decide) ?_
      cases hf
      exact ev_iiret i_X1_switchOf_22 rfl
def f_X1_whereTo_j26 (h : MH) (a0 : Nat) (x1 : Int32) (x3 : Int32) (xs0 : Int32) : Option Int32 := (gR h a0 1 2).bind fun b29 => (aR h b29 ((xs0 * (7 : Int32)) + x1)).bind fun b39 => (gR h b39 5 4).bind fun b40 => (aI h b40 (x3 &&& (15 : Int32))).bind fun v47 => (if v47 < 0 then (some (110 : Int32)) else ((if v47 < (4 : Int32) then ((gR h a0 1 0).bind fun b65 => (aI h b65 ((x1 * (4 : Int32)) + v47)).bind fun v74 => (if v74 = (-1 : Int32) then (some (111 : Int32)) else ((if v74 < (100 : Int32) then (some (v74 / (4 : Int32))) else (some (((100 : Int32) + v74) - (100 : Int32))))))) else (some (110 : Int32)))))
set_option maxRecDepth 20000 in
theorem j_X1_whereTo_26 {G : GG} {h : MH} {a0 : Nat} {x1 : Int32} {x3 : Int32} {xs0 : Int32} {r : Int32} (hf : f_X1_whereTo_j26 h a0 x1 x3 xs0 = some r) : Ev G 0 M_X1_whereTo 26 [some (.ref a0), some (.int x1), none, some (.int x3), none, none, none] [.int xs0] h (some (.int r)) h := by
  unfold f_X1_whereTo_j26 at hf
  refine ev_istore i_X1_whereTo_26 (by decide) ?_
  refine ev_aload_n i_X1_whereTo_28 rfl ?_
  obtain ⟨b29, e29, hf⟩ := ob hf
  refine ev_gR i_X1_whereTo_29 fl_X1_20 rfl e29 ?_
  refine ev_iload i_X1_whereTo_32 rfl ?_
  refine ev_bipush i_X1_whereTo_34 lt_b_7 ?_
  refine ev_imul i_X1_whereTo_36 ?_
  refine ev_iload_n i_X1_whereTo_37 rfl ?_
  refine ev_iadd i_X1_whereTo_38 ?_
  obtain ⟨b39, e39, hf⟩ := ob hf
  refine ev_aR i_X1_whereTo_39 e39 ?_
  obtain ⟨b40, e40, hf⟩ := ob hf
  refine ev_gR i_X1_whereTo_40 fl_X1_111 rfl e40 ?_
  refine ev_iload_n i_X1_whereTo_43 rfl ?_
  refine ev_bipush i_X1_whereTo_44 lt_b_15 ?_
  refine ev_iand i_X1_whereTo_46 ?_
  obtain ⟨v47, e47, hf⟩ := ob hf
  refine ev_aI i_X1_whereTo_47 e47 ?_
  refine ev_istore i_X1_whereTo_48 (by decide) ?_
  refine ev_iload i_X1_whereTo_50 rfl ?_
  refine ev_if_lt (tg := 61) i_X1_whereTo_52 (by decide) (fun c52 => ?_) (fun c52 => ?_)
  · rw [if_pos c52] at hf
    refine ev_bipush i_X1_whereTo_61 lt_b_110 ?_
    cases hf
    exact ev_iiret i_X1_whereTo_63 rfl
  · rw [if_neg c52] at hf
    refine ev_iload i_X1_whereTo_55 rfl ?_
    refine ev_iconst i_X1_whereTo_57 lt_i_4 ?_
    refine ev_icmp_lt (tg := 64) i_X1_whereTo_58 (by decide) (fun c58 => ?_) (fun c58 => ?_)
    · rw [if_pos c58] at hf
      refine ev_aload_n i_X1_whereTo_64 rfl ?_
      obtain ⟨b65, e65, hf⟩ := ob hf
      refine ev_gR i_X1_whereTo_65 fl_X1_9 rfl e65 ?_
      refine ev_iload_n i_X1_whereTo_68 rfl ?_
      refine ev_iconst i_X1_whereTo_69 lt_i_4 ?_
      refine ev_imul i_X1_whereTo_70 ?_
      refine ev_iload i_X1_whereTo_71 rfl ?_
      refine ev_iadd i_X1_whereTo_73 ?_
      obtain ⟨v74, e74, hf⟩ := ob hf
      refine ev_aI i_X1_whereTo_74 e74 ?_
      refine ev_istore i_X1_whereTo_75 (by decide) ?_
      refine ev_iload i_X1_whereTo_77 rfl ?_
      refine ev_iconst i_X1_whereTo_79 lt_i_m1 ?_
      refine ev_icmp_ne (tg := 86) i_X1_whereTo_80 (by decide) (fun c80 => ?_) (fun c80 => ?_)
      · rw [if_neg c80] at hf
        refine ev_iload i_X1_whereTo_86 rfl ?_
        refine ev_bipush i_X1_whereTo_88 lt_b_100 ?_
        refine ev_icmp_lt (tg := 104) i_X1_whereTo_90 (by decide) (fun c90 => ?_) (fun c90 => ?_)
        · rw [if_pos c90] at hf
          refine ev_iload i_X1_whereTo_104 rfl ?_
          refine ev_iconst i_X1_whereTo_106 lt_i_4 ?_
          refine ev_idiv i_X1_whereTo_107 (by decide) ?_
          cases hf
          exact ev_iiret i_X1_whereTo_108 rfl
        · rw [if_neg c90] at hf
          refine ev_bipush i_X1_whereTo_93 lt_b_100 ?_
          refine ev_iload i_X1_whereTo_95 rfl ?_
          refine ev_iadd i_X1_whereTo_97 ?_
          refine ev_bipush i_X1_whereTo_98 lt_b_100 ?_
          refine ev_isub i_X1_whereTo_100 ?_
          refine ev_goto (tg := 108) i_X1_whereTo_101 (by decide) ?_
          cases hf
          exact ev_iiret i_X1_whereTo_108 rfl
      · rw [if_pos c80] at hf
        refine ev_bipush i_X1_whereTo_83 lt_b_111 ?_
        cases hf
        exact ev_iiret i_X1_whereTo_85 rfl
    · rw [if_neg c58] at hf
      refine ev_bipush i_X1_whereTo_61 lt_b_110 ?_
      cases hf
      exact ev_iiret i_X1_whereTo_63 rfl
def f_X1_whereTo (h : MH) (a0 : Nat) (x1 : Int32) (x2 : Int32) (x3 : Int32) : Option Int32 := gK h a0 1 ((if x1 < 0 then (some (111 : Int32)) else ((if x1 < (7 : Int32) then ((if ((x2 >>> (x1 &&& 31)) &&& (1 : Int32)) = 0 then (f_X1_whereTo_j26 h a0 x1 x3 (0 : Int32)) else (f_X1_whereTo_j26 h a0 x1 x3 (1 : Int32)))) else (some (111 : Int32))))))
set_option maxRecDepth 20000 in
theorem e_X1_whereTo {G : GG} {h : MH} {a0 : Nat} {x1 : Int32} {x2 : Int32} {x3 : Int32} {r : Int32} (hf : f_X1_whereTo h a0 x1 x2 x3 = some r) : Ev G 0 M_X1_whereTo 0 (ent M_X1_whereTo [.ref a0, .int x1, .int x2, .int x3]) [] h (some (.int r)) h := by
  unfold f_X1_whereTo at hf
  show Ev G 0 M_X1_whereTo 0 [some (.ref a0), some (.int x1), some (.int x2), some (.int x3), none, none, none] [] h (some (.int r)) h
  obtain ⟨-, hf⟩ := gK_of hf
  refine ev_iload_n i_X1_whereTo_0 rfl ?_
  refine ev_if_lt (tg := 10) i_X1_whereTo_1 (by decide) (fun c1 => ?_) (fun c1 => ?_)
  · rw [if_pos c1] at hf
    refine ev_bipush i_X1_whereTo_10 lt_b_111 ?_
    cases hf
    exact ev_iiret i_X1_whereTo_12 rfl
  · rw [if_neg c1] at hf
    refine ev_iload_n i_X1_whereTo_4 rfl ?_
    refine ev_bipush i_X1_whereTo_5 lt_b_7 ?_
    refine ev_icmp_lt (tg := 13) i_X1_whereTo_7 (by decide) (fun c7 => ?_) (fun c7 => ?_)
    · rw [if_pos c7] at hf
      refine ev_iload_n i_X1_whereTo_13 rfl ?_
      refine ev_iload_n i_X1_whereTo_14 rfl ?_
      refine ev_ishr i_X1_whereTo_15 ?_
      refine ev_iconst i_X1_whereTo_16 lt_i_1 ?_
      refine ev_iand i_X1_whereTo_17 ?_
      refine ev_if_eq (tg := 25) i_X1_whereTo_18 (by decide) (fun c18 => ?_) (fun c18 => ?_)
      · rw [if_pos c18] at hf
        refine ev_iconst i_X1_whereTo_25 lt_i_0 ?_
        refine ev_sub (lc2 := [some (.ref a0), some (.int x1), none, some (.int x3), none, none, none]) ⟨Or.inr rfl, Or.inr rfl, Or.inl rfl, Or.inr rfl, Or.inr rfl, Or.inr rfl, Or.inr rfl, trivial⟩ ?_
        exact j_X1_whereTo_26 hf
      · rw [if_neg c18] at hf
        refine ev_iconst i_X1_whereTo_21 lt_i_1 ?_
        refine ev_goto (tg := 26) i_X1_whereTo_22 (by decide) ?_
        refine ev_sub (lc2 := [some (.ref a0), some (.int x1), none, some (.int x3), none, none, none]) ⟨Or.inr rfl, Or.inr rfl, Or.inl rfl, Or.inr rfl, Or.inr rfl, Or.inr rfl, Or.inr rfl, trivial⟩ ?_
        exact j_X1_whereTo_26 hf
    · rw [if_neg c7] at hf
      refine ev_bipush i_X1_whereTo_10 lt_b_111 ?_
      cases hf
      exact ev_iiret i_X1_whereTo_12 rfl
def f_X1_trace_L12 (k48 : MH → Option MH) (a0 : Nat) (a1 : Nat) (x2 : Int32) (x4 : Int32) : Nat → MH → Int32 → Option MH
  | 0, _, _ => none
  | n + 1, h, x5 => (if (7 : Int32) ≤ x5 then (k48 h) else ((f_X8_end h a1).bind fun v20 => (if v20 = (-1 : Int32) then ((f_X8_last h a1).bind fun v30 => (f_X1_whereTo h a0 v30 x2 x4).bind fun v36 => (f_X8_goOn h a1 v36).bind fun h39 => f_X1_trace_L12 k48 a0 a1 x2 x4 n h39 (x5 + (1 : Int32))) else (k48 h))))
set_option maxRecDepth 20000 in
theorem l_X1_trace_12 {G : GG} {k48 : MH → Option MH} {a0 : Nat} {a1 : Nat} {x2 : Int32} {x4 : Int32} (hk48 : ∀ (hz : MH) (r : MH), k48 hz = some r → Ev G 1 M_X1_trace 48 [none, none, none, none, none, none] [] hz none r) : ∀ (n : Nat) (h : MH) (x5 : Int32) (r : MH), f_X1_trace_L12 k48 a0 a1 x2 x4 n h x5 = some r → Ev G 1 M_X1_trace 12 [some (.ref a0), some (.ref a1), some (.int x2), none, some (.int x4), some (.int x5)] [] h none r := by
  intro n
  induction n with
  | zero => intro h x5 r hf; rw [f_X1_trace_L12] at hf; cases hf
  | succ n ih =>
    intro h x5 r hf
    rw [f_X1_trace_L12] at hf
    refine ev_iload i_X1_trace_12 rfl ?_
    refine ev_bipush i_X1_trace_14 lt_b_7 ?_
    refine ev_icmp_ge (tg := 48) i_X1_trace_16 (by decide) (fun c16 => ?_) (fun c16 => ?_)
    · rw [if_pos c16] at hf
      refine ev_sub (lc2 := [none, none, none, none, none, none]) ⟨Or.inl rfl, Or.inl rfl, Or.inl rfl, Or.inr rfl, Or.inl rfl, Or.inl rfl, trivial⟩ ?_
      exact hk48 h _ hf
    · rw [if_neg c16] at hf
      refine ev_aload_n i_X1_trace_19 rfl ?_
      obtain ⟨v20, e20, hf⟩ := ob hf
      refine ev_cV_i i_X1_trace_20 lk_X1_trace_98 [] rfl rfl (by decide) (gK_of e20).1.1 (gK_of e20).1.2 (Nat.le_of_ble_eq_true rfl) (by decide) (e_X8_end e20) ?_
      refine ev_iconst i_X1_trace_23 lt_i_m1 ?_
      refine ev_icmp_ne (tg := 48) i_X1_trace_24 (by decide) (fun c24 => ?_) (fun c24 => ?_)
      · rw [if_neg c24] at hf
        refine ev_sub (lc2 := [none, none, none, none, none, none]) ⟨Or.inl rfl, Or.inl rfl, Or.inl rfl, Or.inr rfl, Or.inl rfl, Or.inl rfl, trivial⟩ ?_
        exact hk48 h _ hf
      · rw [if_pos c24] at hf
        refine ev_aload_n i_X1_trace_27 rfl ?_
        refine ev_aload_n i_X1_trace_28 rfl ?_
        refine ev_aload_n i_X1_trace_29 rfl ?_
        obtain ⟨v30, e30, hf⟩ := ob hf
        refine ev_cV_i i_X1_trace_30 lk_X1_trace_101 [] rfl rfl (by decide) (gK_of e30).1.1 (gK_of e30).1.2 (Nat.le_of_ble_eq_true rfl) (by decide) (e_X8_last e30) ?_
        refine ev_iload_n i_X1_trace_33 rfl ?_
        refine ev_iload i_X1_trace_34 rfl ?_
        obtain ⟨v36, e36, hf⟩ := ob hf
        refine ev_cV_i i_X1_trace_36 lk_X1_trace_104 [.int v30, .int x2, .int x4] rfl rfl (by decide) (gK_of e36).1.1 (gK_of e36).1.2 (Nat.le_of_ble_eq_true rfl) (by decide) (e_X1_whereTo e36) ?_
        obtain ⟨h39, e39, hf⟩ := ob hf
        refine ev_cV_v i_X1_trace_39 lk_X1_trace_108 [.int v36] rfl rfl (by decide) (gK_of e39).1.1 (gK_of e39).1.2 (Nat.le_of_ble_eq_true rfl) (by decide) (e_X8_goOn e39) ?_
        refine ev_iinc (y := (x5 + (1 : Int32))) i_X1_trace_42 rfl rfl (by decide) ?_
        refine ev_goto (tg := 12) i_X1_trace_45 (by decide) ?_
        exact ih h39 (x5 + (1 : Int32)) _ hf
def f_X1_trace (h : MH) (a0 : Nat) (a1 : Nat) (x2 : Int32) (x3 : Int32) (x4 : Int32) : Option MH := gK h a0 1 ((f_X1_switchOf h a0 x3).bind fun v3 => (f_X8_startAt h a1 v3).bind fun h6 => f_X1_trace_L12 (fun he48 => some he48) a0 a1 x2 x4 fuel h6 (0 : Int32))
set_option maxRecDepth 20000 in
theorem e_X1_trace {G : GG} {h : MH} {a0 : Nat} {a1 : Nat} {x2 : Int32} {x3 : Int32} {x4 : Int32} {r : MH} (hf : f_X1_trace h a0 a1 x2 x3 x4 = some r) : Ev G 1 M_X1_trace 0 (ent M_X1_trace [.ref a0, .ref a1, .int x2, .int x3, .int x4]) [] h none r := by
  unfold f_X1_trace at hf
  show Ev G 1 M_X1_trace 0 [some (.ref a0), some (.ref a1), some (.int x2), some (.int x3), some (.int x4), none] [] h none r
  obtain ⟨-, hf⟩ := gK_of hf
  refine ev_aload_n i_X1_trace_0 rfl ?_
  refine ev_aload_n i_X1_trace_1 rfl ?_
  refine ev_iload_n i_X1_trace_2 rfl ?_
  obtain ⟨v3, e3, hf⟩ := ob hf
  refine ev_cV_i i_X1_trace_3 lk_X1_trace_89 [.int x3] rfl rfl (by decide) (gK_of e3).1.1 (gK_of e3).1.2 (Nat.le_of_ble_eq_true rfl) (by decide) (e_X1_switchOf e3) ?_
  obtain ⟨h6, e6, hf⟩ := ob hf
  refine ev_cV_v i_X1_trace_6 lk_X1_trace_92 [.int v3] rfl rfl (by decide) (gK_of e6).1.1 (gK_of e6).1.2 (Nat.le_of_ble_eq_true rfl) (by decide) (e_X8_startAt e6) ?_
  refine ev_iconst i_X1_trace_9 lt_i_0 ?_
  refine ev_istore i_X1_trace_10 (by decide) ?_
  refine ev_sub (lc2 := [some (.ref a0), some (.ref a1), some (.int x2), none, some (.int x4), some (.int (0 : Int32))]) ⟨Or.inr rfl, Or.inr rfl, Or.inr rfl, Or.inl rfl, Or.inr rfl, Or.inr rfl, trivial⟩ ?_
  exact l_X1_trace_12 (fun he48 r hf => by
    cases hf
    exact ev_vret i_X1_trace_48 rfl) fuel h6 (0 : Int32) _ hf
def f_X1_allNew (h : MH) (a0 : Nat) : Option Int32 := gK h a0 1 ((gI h a0 1 6).bind fun v2 => some (((1 : Int32) <<< (v2 &&& 31)) - (1 : Int32)))
set_option maxRecDepth 20000 in
theorem e_X1_allNew {G : GG} {h : MH} {a0 : Nat} {r : Int32} (hf : f_X1_allNew h a0 = some r) : Ev G 0 M_X1_allNew 0 (ent M_X1_allNew [.ref a0]) [] h (some (.int r)) h := by
  unfold f_X1_allNew at hf
  show Ev G 0 M_X1_allNew 0 [some (.ref a0)] [] h (some (.int r)) h
  obtain ⟨-, hf⟩ := gK_of hf
  refine ev_iconst i_X1_allNew_0 lt_i_1 ?_
  refine ev_aload_n i_X1_allNew_1 rfl ?_
  obtain ⟨v2, e2, hf⟩ := ob hf
  refine ev_gI i_X1_allNew_2 fl_X1_27 rfl e2 ?_
  refine ev_ishl i_X1_allNew_5 ?_
  refine ev_iconst i_X1_allNew_6 lt_i_1 ?_
  refine ev_isub i_X1_allNew_7 ?_
  cases hf
  exact ev_iiret i_X1_allNew_8 rfl
def f_X7_isMet (h : MH) (a0 : Nat) (a1 : Nat) (a2 : Nat) (a3 : Nat) : Option Int32 := gK h a0 7 ((gI h a0 7 0).bind fun v1 => (if v1 = 0 then ((f_X8_end h a1).bind fun v37 => (gI h a0 7 4).bind fun v41 => (if v37 = v41 then (some (1 : Int32)) else (some (0 : Int32)))) else (if v1 = 1 then ((f_X8_end h a1).bind fun v54 => (if v54 = (12 : Int32) then (some (0 : Int32)) else (some (1 : Int32)))) else (if v1 = 2 then ((f_X8_end h a1).bind fun v69 => (gI h a0 7 4).bind fun v73 => (if v69 = v73 then (some (0 : Int32)) else (some (1 : Int32)))) else (if v1 = 3 then ((f_X8_end h a1).bind fun v86 => (gI h a0 7 4).bind fun v90 => (if v86 = v90 then ((gI h a0 7 5).bind fun v98 => (f_X8_passes h a1 v98).bind fun v101 => (if v101 = 0 then (some (0 : Int32)) else (some (1 : Int32)))) else (some (1 : Int32)))) else ((f_X8_isLike h a1 a2).bind fun v115 => (if v115 = 0 then ((f_X8_isLike h a1 a3).bind fun v123 => (if v123 = 0 then (some (0 : Int32)) else (some (1 : Int32)))) else (some (1 : Int32)))))))))
set_option maxRecDepth 20000 in
theorem e_X7_isMet {G : GG} {h : MH} {a0 : Nat} {a1 : Nat} {a2 : Nat} {a3 : Nat} {r : Int32} (hf : f_X7_isMet h a0 a1 a2 a3 = some r) : Ev G 1 M_X7_isMet 0 (ent M_X7_isMet [.ref a0, .ref a1, .ref a2, .ref a3]) [] h (some (.int r)) h := by
  unfold f_X7_isMet at hf
  show Ev G 1 M_X7_isMet 0 [some (.ref a0), some (.ref a1), some (.ref a2), some (.ref a3)] [] h (some (.int r)) h
  obtain ⟨-, hf⟩ := gK_of hf
  refine ev_aload_n i_X7_isMet_0 rfl ?_
  obtain ⟨v1, e1, hf⟩ := ob hf
  refine ev_gI i_X7_isMet_1 fl_X7_9 rfl e1 ?_
  by_cases c4_0 : v1 = 0
  · rw [if_pos c4_0] at hf
    refine ev_ts (tg := 36) 0 32 i_X7_isMet_4 c4_0 (by decide) ?_
    refine ev_aload_n i_X7_isMet_36 rfl ?_
    obtain ⟨v37, e37, hf⟩ := ob hf
    refine ev_cV_i i_X7_isMet_37 lk_X7_isMet_38 [] rfl rfl (by decide) (gK_of e37).1.1 (gK_of e37).1.2 (Nat.le_of_ble_eq_true rfl) (by decide) (e_X8_end e37) ?_
    refine ev_aload_n i_X7_isMet_40 rfl ?_
    obtain ⟨v41, e41, hf⟩ := ob hf
    refine ev_gI i_X7_isMet_41 fl_X7_24 rfl e41 ?_
    refine ev_icmp_ne (tg := 51) i_X7_isMet_44 (by decide) (fun c44 => ?_) (fun c44 => ?_)
    · rw [if_neg c44] at hf
      refine ev_iconst i_X7_isMet_51 lt_i_0 ?_
      cases hf
      exact ev_zret i_X7_isMet_52 rfl (by decide)
    · rw [if_pos c44] at hf
      refine ev_iconst i_X7_isMet_47 lt_i_1 ?_
      refine ev_goto (tg := 52) i_X7_isMet_48 (by decide) ?_
      cases hf
      exact ev_zret i_X7_isMet_52 rfl (by decide)
  rw [if_neg c4_0] at hf
  by_cases c4_1 : v1 = 1
  · rw [if_pos c4_1] at hf
    refine ev_ts (tg := 53) 1 49 i_X7_isMet_4 c4_1 (by decide) ?_
    refine ev_aload_n i_X7_isMet_53 rfl ?_
    obtain ⟨v54, e54, hf⟩ := ob hf
    refine ev_cV_i i_X7_isMet_54 lk_X7_isMet_38 [] rfl rfl (by decide) (gK_of e54).1.1 (gK_of e54).1.2 (Nat.le_of_ble_eq_true rfl) (by decide) (e_X8_end e54) ?_
    refine ev_bipush i_X7_isMet_57 lt_b_12 ?_
    refine ev_icmp_eq (tg := 66) i_X7_isMet_59 (by decide) (fun c59 => ?_) (fun c59 => ?_)
    · rw [if_pos c59] at hf
      refine ev_iconst i_X7_isMet_66 lt_i_0 ?_
      cases hf
      exact ev_zret i_X7_isMet_67 rfl (by decide)
    · rw [if_neg c59] at hf
      refine ev_iconst i_X7_isMet_62 lt_i_1 ?_
      refine ev_goto (tg := 67) i_X7_isMet_63 (by decide) ?_
      cases hf
      exact ev_zret i_X7_isMet_67 rfl (by decide)
  rw [if_neg c4_1] at hf
  by_cases c4_2 : v1 = 2
  · rw [if_pos c4_2] at hf
    refine ev_ts (tg := 68) 2 64 i_X7_isMet_4 c4_2 (by decide) ?_
    refine ev_aload_n i_X7_isMet_68 rfl ?_
    obtain ⟨v69, e69, hf⟩ := ob hf
    refine ev_cV_i i_X7_isMet_69 lk_X7_isMet_38 [] rfl rfl (by decide) (gK_of e69).1.1 (gK_of e69).1.2 (Nat.le_of_ble_eq_true rfl) (by decide) (e_X8_end e69) ?_
    refine ev_aload_n i_X7_isMet_72 rfl ?_
    obtain ⟨v73, e73, hf⟩ := ob hf
    refine ev_gI i_X7_isMet_73 fl_X7_24 rfl e73 ?_
    refine ev_icmp_eq (tg := 83) i_X7_isMet_76 (by decide) (fun c76 => ?_) (fun c76 => ?_)
    · rw [if_pos c76] at hf
      refine ev_iconst i_X7_isMet_83 lt_i_0 ?_
      cases hf
      exact ev_zret i_X7_isMet_84 rfl (by decide)
    · rw [if_neg c76] at hf
      refine ev_iconst i_X7_isMet_79 lt_i_1 ?_
      refine ev_goto (tg := 84) i_X7_isMet_80 (by decide) ?_
      cases hf
      exact ev_zret i_X7_isMet_84 rfl (by decide)
  rw [if_neg c4_2] at hf
  by_cases c4_3 : v1 = 3
  · rw [if_pos c4_3] at hf
    refine ev_ts (tg := 85) 3 81 i_X7_isMet_4 c4_3 (by decide) ?_
    refine ev_aload_n i_X7_isMet_85 rfl ?_
    obtain ⟨v86, e86, hf⟩ := ob hf
    refine ev_cV_i i_X7_isMet_86 lk_X7_isMet_38 [] rfl rfl (by decide) (gK_of e86).1.1 (gK_of e86).1.2 (Nat.le_of_ble_eq_true rfl) (by decide) (e_X8_end e86) ?_
    refine ev_aload_n i_X7_isMet_89 rfl ?_
    obtain ⟨v90, e90, hf⟩ := ob hf
    refine ev_gI i_X7_isMet_90 fl_X7_24 rfl e90 ?_
    refine ev_icmp_ne (tg := 107) i_X7_isMet_93 (by decide) (fun c93 => ?_) (fun c93 => ?_)
    · rw [if_neg c93] at hf
      refine ev_iconst i_X7_isMet_107 lt_i_1 ?_
      refine ev_goto (tg := 112) i_X7_isMet_108 (by decide) ?_
      cases hf
      exact ev_zret i_X7_isMet_112 rfl (by decide)
    · rw [if_pos c93] at hf
      refine ev_aload_n i_X7_isMet_96 rfl ?_
      refine ev_aload_n i_X7_isMet_97 rfl ?_
      obtain ⟨v98, e98, hf⟩ := ob hf
      refine ev_gI i_X7_isMet_98 fl_X7_27 rfl e98 ?_
      obtain ⟨v101, e101, hf⟩ := ob hf
      refine ev_cV_i i_X7_isMet_101 lk_X7_isMet_44 [.int v98] rfl rfl (by decide) (gK_of e101).1.1 (gK_of e101).1.2 (Nat.le_of_ble_eq_true rfl) (by decide) (e_X8_passes e101) ?_
      refine ev_if_eq (tg := 111) i_X7_isMet_104 (by decide) (fun c104 => ?_) (fun c104 => ?_)
      · rw [if_pos c104] at hf
        refine ev_iconst i_X7_isMet_111 lt_i_0 ?_
        cases hf
        exact ev_zret i_X7_isMet_112 rfl (by decide)
      · rw [if_neg c104] at hf
        refine ev_iconst i_X7_isMet_107 lt_i_1 ?_
        refine ev_goto (tg := 112) i_X7_isMet_108 (by decide) ?_
        cases hf
        exact ev_zret i_X7_isMet_112 rfl (by decide)
  rw [if_neg c4_3] at hf
  refine ev_tsOut (tg := 113) i_X7_isMet_4 (ts_out (n := 3) (by decide) (fun k hk => by rcases (show k = 0 ∨ k = 1 ∨ k = 2 ∨ k = 3 by omega) with rfl | rfl | rfl | rfl <;> assumption)) (by decide) ?_
  refine ev_aload_n i_X7_isMet_113 rfl ?_
  refine ev_aload_n i_X7_isMet_114 rfl ?_
  obtain ⟨v115, e115, hf⟩ := ob hf
  refine ev_cV_i i_X7_isMet_115 lk_X7_isMet_47 [.ref a2] rfl rfl (by decide) (gK_of e115).1.1 (gK_of e115).1.2 (Nat.le_of_ble_eq_true rfl) (by decide) (e_X8_isLike e115) ?_
  refine ev_if_ne (tg := 129) i_X7_isMet_118 (by decide) (fun c118 => ?_) (fun c118 => ?_)
  · rw [if_neg c118] at hf
    refine ev_iconst i_X7_isMet_129 lt_i_1 ?_
    refine ev_goto (tg := 134) i_X7_isMet_130 (by decide) ?_
    cases hf
    exact ev_zret i_X7_isMet_134 rfl (by decide)
  · rw [if_pos c118] at hf
    refine ev_aload_n i_X7_isMet_121 rfl ?_
    refine ev_aload_n i_X7_isMet_122 rfl ?_
    obtain ⟨v123, e123, hf⟩ := ob hf
    refine ev_cV_i i_X7_isMet_123 lk_X7_isMet_47 [.ref a3] rfl rfl (by decide) (gK_of e123).1.1 (gK_of e123).1.2 (Nat.le_of_ble_eq_true rfl) (by decide) (e_X8_isLike e123) ?_
    refine ev_if_eq (tg := 133) i_X7_isMet_126 (by decide) (fun c126 => ?_) (fun c126 => ?_)
    · rw [if_pos c126] at hf
      refine ev_iconst i_X7_isMet_133 lt_i_0 ?_
      cases hf
      exact ev_zret i_X7_isMet_134 rfl (by decide)
    · rw [if_neg c126] at hf
      refine ev_iconst i_X7_isMet_129 lt_i_1 ?_
      refine ev_goto (tg := 134) i_X7_isMet_130 (by decide) ?_
      cases hf
      exact ev_zret i_X7_isMet_134 rfl (by decide)
def f_X1_unlike_L4 (k45 : Int32 → Option Int32) (h : MH) (a0 : Nat) : Nat → Int32 → Int32 → Option Int32
  | 0, _, _ => none
  | n + 1, x1, x2 => (gI h a0 1 6).bind fun v6 => (if v6 ≤ x2 then (k45 x1) else ((gR h a0 1 2).bind fun b13 => (aR h b13 x2).bind fun b17 => (gR h a0 1 2).bind fun b19 => (aR h b19 ((7 : Int32) + x2)).bind fun b26 => (f_X5_isLike h b17 b26).bind fun v27 => (if v27 = 0 then (f_X1_unlike_L4 k45 h a0 n (x1 ||| ((1 : Int32) <<< (x2 &&& 31))) (x2 + (1 : Int32))) else (f_X1_unlike_L4 k45 h a0 n x1 (x2 + (1 : Int32))))))
set_option maxRecDepth 20000 in
theorem l_X1_unlike_4 {G : GG} {k45 : Int32 → Option Int32} {h : MH} {a0 : Nat} (hk45 : ∀ (x1z : Int32) (r : Int32), k45 x1z = some r → Ev G 1 M_X1_unlike 45 [none, some (.int x1z), none] [] h (some (.int r)) h) : ∀ (n : Nat) (x1 : Int32) (x2 : Int32) (r : Int32), f_X1_unlike_L4 k45 h a0 n x1 x2 = some r → Ev G 1 M_X1_unlike 4 [some (.ref a0), some (.int x1), some (.int x2)] [] h (some (.int r)) h := by
  intro n
  induction n with
  | zero => intro x1 x2 r hf; rw [f_X1_unlike_L4] at hf; cases hf
  | succ n ih =>
    intro x1 x2 r hf
    rw [f_X1_unlike_L4] at hf
    refine ev_iload_n i_X1_unlike_4 rfl ?_
    refine ev_aload_n i_X1_unlike_5 rfl ?_
    obtain ⟨v6, e6, hf⟩ := ob hf
    refine ev_gI i_X1_unlike_6 fl_X1_27 rfl e6 ?_
    refine ev_icmp_ge (tg := 45) i_X1_unlike_9 (by decide) (fun c9 => ?_) (fun c9 => ?_)
    · rw [if_pos c9] at hf
      refine ev_sub (lc2 := [none, some (.int x1), none]) ⟨Or.inl rfl, Or.inr rfl, Or.inl rfl, trivial⟩ ?_
      exact hk45 x1 _ hf
    · rw [if_neg c9] at hf
      refine ev_aload_n i_X1_unlike_12 rfl ?_
      obtain ⟨b13, e13, hf⟩ := ob hf
      refine ev_gR i_X1_unlike_13 fl_X1_20 rfl e13 ?_
      refine ev_iload_n i_X1_unlike_16 rfl ?_
      obtain ⟨b17, e17, hf⟩ := ob hf
      refine ev_aR i_X1_unlike_17 e17 ?_
      refine ev_aload_n i_X1_unlike_18 rfl ?_
      obtain ⟨b19, e19, hf⟩ := ob hf
      refine ev_gR i_X1_unlike_19 fl_X1_20 rfl e19 ?_
      refine ev_bipush i_X1_unlike_22 lt_b_7 ?_
      refine ev_iload_n i_X1_unlike_24 rfl ?_
      refine ev_iadd i_X1_unlike_25 ?_
      obtain ⟨b26, e26, hf⟩ := ob hf
      refine ev_aR i_X1_unlike_26 e26 ?_
      obtain ⟨v27, e27, hf⟩ := ob hf
      refine ev_cV_i i_X1_unlike_27 lk_X1_unlike_66 [.ref b26] rfl rfl (by decide) (gK_of e27).1.1 (gK_of e27).1.2 (Nat.le_of_ble_eq_true rfl) (by decide) (e_X5_isLike e27) ?_
      refine ev_if_ne (tg := 39) i_X1_unlike_30 (by decide) (fun c30 => ?_) (fun c30 => ?_)
      · rw [if_neg c30] at hf
        refine ev_iinc (y := (x2 + (1 : Int32))) i_X1_unlike_39 rfl rfl (by decide) ?_
        refine ev_goto (tg := 4) i_X1_unlike_42 (by decide) ?_
        exact ih x1 (x2 + (1 : Int32)) _ hf
      · rw [if_pos c30] at hf
        refine ev_iload_n i_X1_unlike_33 rfl ?_
        refine ev_iconst i_X1_unlike_34 lt_i_1 ?_
        refine ev_iload_n i_X1_unlike_35 rfl ?_
        refine ev_ishl i_X1_unlike_36 ?_
        refine ev_ior i_X1_unlike_37 ?_
        refine ev_istore_n i_X1_unlike_38 (by decide) ?_
        refine ev_iinc (y := (x2 + (1 : Int32))) i_X1_unlike_39 rfl rfl (by decide) ?_
        refine ev_goto (tg := 4) i_X1_unlike_42 (by decide) ?_
        exact ih (x1 ||| ((1 : Int32) <<< (x2 &&& 31))) (x2 + (1 : Int32)) _ hf
def f_X1_unlike (h : MH) (a0 : Nat) : Option Int32 := gK h a0 1 (f_X1_unlike_L4 (fun x1e45 => some x1e45) h a0 fuel (0 : Int32) (0 : Int32))
set_option maxRecDepth 20000 in
theorem e_X1_unlike {G : GG} {h : MH} {a0 : Nat} {r : Int32} (hf : f_X1_unlike h a0 = some r) : Ev G 1 M_X1_unlike 0 (ent M_X1_unlike [.ref a0]) [] h (some (.int r)) h := by
  unfold f_X1_unlike at hf
  show Ev G 1 M_X1_unlike 0 [some (.ref a0), none, none] [] h (some (.int r)) h
  obtain ⟨-, hf⟩ := gK_of hf
  refine ev_iconst i_X1_unlike_0 lt_i_0 ?_
  refine ev_istore_n i_X1_unlike_1 (by decide) ?_
  refine ev_iconst i_X1_unlike_2 lt_i_0 ?_
  refine ev_istore_n i_X1_unlike_3 (by decide) ?_
  exact l_X1_unlike_4 (fun x1e45 r hf => by
    refine ev_iload_n i_X1_unlike_45 rfl ?_
    cases hf
    exact ev_iiret i_X1_unlike_46 rfl) fuel (0 : Int32) (0 : Int32) _ hf
def f_X1_init_L52 (k77 : MH → Option MH) (a0 : Nat) : Nat → MH → Int32 → Option MH
  | 0, _, _ => none
  | n + 1, h, x1 => (if (14 : Int32) ≤ x1 then (k77 h) else ((gR h a0 1 2).bind fun b59 => (f_X5_init (mm_no h 5) (mm_N h)).bind fun h67 => (sR h67 b59 x1 (mm_N h)).bind fun h70 => f_X1_init_L52 k77 a0 n h70 (x1 + (1 : Int32))))
set_option maxRecDepth 20000 in
theorem l_X1_init_52 {G : GG} {k77 : MH → Option MH} {a0 : Nat} (hk77 : ∀ (hz : MH) (r : MH), k77 hz = some r → Ev G 2 M_X1_init 77 [none, none] [] hz none r) : ∀ (n : Nat) (h : MH) (x1 : Int32) (r : MH), f_X1_init_L52 k77 a0 n h x1 = some r → Ev G 2 M_X1_init 52 [some (.ref a0), some (.int x1)] [] h none r := by
  intro n
  induction n with
  | zero => intro h x1 r hf; rw [f_X1_init_L52] at hf; cases hf
  | succ n ih =>
    intro h x1 r hf
    rw [f_X1_init_L52] at hf
    refine ev_iload_n i_X1_init_52 rfl ?_
    refine ev_bipush i_X1_init_53 lt_b_14 ?_
    refine ev_icmp_ge (tg := 77) i_X1_init_55 (by decide) (fun c55 => ?_) (fun c55 => ?_)
    · rw [if_pos c55] at hf
      refine ev_sub (lc2 := [none, none]) ⟨Or.inl rfl, Or.inl rfl, trivial⟩ ?_
      exact hk77 h _ hf
    · rw [if_neg c55] at hf
      refine ev_aload_n i_X1_init_58 rfl ?_
      obtain ⟨b59, e59, hf⟩ := ob hf
      refine ev_gR i_X1_init_59 fl_X1_20 rfl e59 ?_
      refine ev_iload_n i_X1_init_62 rfl ?_
      refine ev_new i_X1_init_63 nc_X1_18 ?_
      refine ev_dup i_X1_init_66 ?_
      obtain ⟨h67, e67, hf⟩ := ob hf
      refine ev_cI_v i_X1_init_67 lk_X1_init_37 [] rfl rfl (by decide) (Nat.le_of_ble_eq_true rfl) (by decide) (e_X5_init e67) ?_
      obtain ⟨h70, e70, hf⟩ := ob hf
      refine ev_sR i_X1_init_70 e70 ?_
      refine ev_iinc (y := (x1 + (1 : Int32))) i_X1_init_71 rfl rfl (by decide) ?_
      refine ev_goto (tg := 52) i_X1_init_74 (by decide) ?_
      exact ih h70 (x1 + (1 : Int32)) _ hf
def f_X1_init (h : MH) (a0 : Nat) : Option MH := (pR (mm_na h 11 28) a0 1 0 (mm_N h)).bind fun h9 => (pR (mm_na h9 11 6) a0 1 1 (mm_N h9)).bind fun h17 => (pR (mm_na h17 14 14) a0 1 2 (mm_N h17)).bind fun h26 => (pR (mm_na h26 11 16) a0 1 3 (mm_N h26)).bind fun h34 => (pI h34 a0 1 6 (1 : Int32)).bind fun h39 => (gR h39 a0 1 0).bind fun b43 => (f_J7_fill_53178 h39 b43 (-1 : Int32)).bind fun h47 => f_X1_init_L52 (fun he77 => some he77) a0 fuel h47 (0 : Int32)
set_option maxRecDepth 20000 in
theorem e_X1_init {G : GG} {h : MH} {a0 : Nat} {r : MH} (hf : f_X1_init h a0 = some r) : Ev G 2 M_X1_init 0 (ent M_X1_init [.ref a0]) [] h none r := by
  unfold f_X1_init at hf
  show Ev G 2 M_X1_init 0 [some (.ref a0), none] [] h none r
  refine ev_aload_n i_X1_init_0 rfl ?_
  refine ev_objI i_X1_init_1 ml_X1_3 go_1 go_2 (Nat.le_of_ble_eq_true rfl) (by decide) ?_
  refine ev_aload_n i_X1_init_4 rfl ?_
  refine ev_bipush i_X1_init_5 lt_b_28 ?_
  refine ev_nA (kd := 11) i_X1_init_7 (Or.inl ⟨rfl, rfl⟩) ga_i (by decide) (by decide : _ = 28) (by decide) ?_
  obtain ⟨h9, e9, hf⟩ := ob hf
  refine ev_pR i_X1_init_9 fp_X1_init_9 rfl e9 ?_
  refine ev_aload_n i_X1_init_12 rfl ?_
  refine ev_bipush i_X1_init_13 lt_b_6 ?_
  refine ev_nA (kd := 11) i_X1_init_15 (Or.inl ⟨rfl, rfl⟩) ga_i (by decide) (by decide : _ = 6) (by decide) ?_
  obtain ⟨h17, e17, hf⟩ := ob hf
  refine ev_pR i_X1_init_17 fp_X1_init_15 rfl e17 ?_
  refine ev_aload_n i_X1_init_20 rfl ?_
  refine ev_bipush i_X1_init_21 lt_b_14 ?_
  refine ev_nAR (kd := 14) i_X1_init_23 (Or.inr (Or.inl ⟨rfl, rfl⟩)) cw_X1_18 gao_X5 (by decide) (by decide : _ = 14) (by decide) ?_
  obtain ⟨h26, e26, hf⟩ := ob hf
  refine ev_pR i_X1_init_26 fp_X1_init_20 rfl e26 ?_
  refine ev_aload_n i_X1_init_29 rfl ?_
  refine ev_bipush i_X1_init_30 lt_b_16 ?_
  refine ev_nA (kd := 11) i_X1_init_32 (Or.inl ⟨rfl, rfl⟩) ga_i (by decide) (by decide : _ = 16) (by decide) ?_
  obtain ⟨h34, e34, hf⟩ := ob hf
  refine ev_pR i_X1_init_34 fp_X1_init_24 rfl e34 ?_
  refine ev_aload_n i_X1_init_37 rfl ?_
  refine ev_iconst i_X1_init_38 lt_i_1 ?_
  obtain ⟨h39, e39, hf⟩ := ob hf
  refine ev_pI i_X1_init_39 fp_X1_init_27 rfl e39 ?_
  refine ev_aload_n i_X1_init_42 rfl ?_
  obtain ⟨b43, e43, hf⟩ := ob hf
  refine ev_gR i_X1_init_43 fl_X1_9 rfl e43 ?_
  refine ev_iconst i_X1_init_46 lt_i_m1 ?_
  obtain ⟨h47, e47, hf⟩ := ob hf
  refine ev_cS_v i_X1_init_47 lk_X1_init_31 [.ref b43, .int (-1 : Int32)] rfl rfl (by decide) (Nat.le_of_ble_eq_true rfl) (by decide) (e_J7_fill_53178 e47) ?_
  refine ev_iconst i_X1_init_50 lt_i_0 ?_
  refine ev_istore_n i_X1_init_51 (by decide) ?_
  exact l_X1_init_52 (fun he77 r hf => by
    cases hf
    exact ev_vret i_X1_init_77 rfl) fuel h47 (0 : Int32) _ hf
def f_X1_reset_L25 (k46 : MH → Option MH) (a0 : Nat) : Nat → MH → Int32 → Option MH
  | 0, _, _ => none
  | n + 1, h, x2 => (if (14 : Int32) ≤ x2 then (k46 h) else ((gR h a0 1 2).bind fun b32 => (aR h b32 x2).bind fun b36 => (f_X5_clear h b36).bind fun h37 => f_X1_reset_L25 k46 a0 n h37 (x2 + (1 : Int32))))
set_option maxRecDepth 20000 in
theorem l_X1_reset_25 {G : GG} {k46 : MH → Option MH} {a0 : Nat} (hk46 : ∀ (hz : MH) (r : MH), k46 hz = some r → Ev G 3 M_X1_reset 46 [none, none, none] [] hz none r) : ∀ (n : Nat) (h : MH) (x2 : Int32) (r : MH), f_X1_reset_L25 k46 a0 n h x2 = some r → Ev G 3 M_X1_reset 25 [some (.ref a0), none, some (.int x2)] [] h none r := by
  intro n
  induction n with
  | zero => intro h x2 r hf; rw [f_X1_reset_L25] at hf; cases hf
  | succ n ih =>
    intro h x2 r hf
    rw [f_X1_reset_L25] at hf
    refine ev_iload_n i_X1_reset_25 rfl ?_
    refine ev_bipush i_X1_reset_26 lt_b_14 ?_
    refine ev_icmp_ge (tg := 46) i_X1_reset_28 (by decide) (fun c28 => ?_) (fun c28 => ?_)
    · rw [if_pos c28] at hf
      refine ev_sub (lc2 := [none, none, none]) ⟨Or.inl rfl, Or.inr rfl, Or.inl rfl, trivial⟩ ?_
      exact hk46 h _ hf
    · rw [if_neg c28] at hf
      refine ev_aload_n i_X1_reset_31 rfl ?_
      obtain ⟨b32, e32, hf⟩ := ob hf
      refine ev_gR i_X1_reset_32 fl_X1_20 rfl e32 ?_
      refine ev_iload_n i_X1_reset_35 rfl ?_
      obtain ⟨b36, e36, hf⟩ := ob hf
      refine ev_aR i_X1_reset_36 e36 ?_
      obtain ⟨h37, e37, hf⟩ := ob hf
      refine ev_cV_v i_X1_reset_37 lk_X1_reset_44 [] rfl rfl (by decide) (gK_of e37).1.1 (gK_of e37).1.2 (Nat.le_of_ble_eq_true rfl) (by decide) (e_X5_clear e37) ?_
      refine ev_iinc (y := (x2 + (1 : Int32))) i_X1_reset_40 rfl rfl (by decide) ?_
      refine ev_goto (tg := 25) i_X1_reset_43 (by decide) ?_
      exact ih h37 (x2 + (1 : Int32)) _ hf
def f_X1_reset (h : MH) (a0 : Nat) (x1 : Int32) : Option MH := gK h a0 1 ((pI h a0 1 6 x1).bind fun h2 => (pI h2 a0 1 7 (0 : Int32)).bind fun h7 => (pI h7 a0 1 8 (0 : Int32)).bind fun h12 => (gR h12 a0 1 0).bind fun b16 => (f_J7_fill_53178 h12 b16 (-1 : Int32)).bind fun h20 => f_X1_reset_L25 (fun he46 => some he46) a0 fuel h20 (0 : Int32))
set_option maxRecDepth 20000 in
theorem e_X1_reset {G : GG} {h : MH} {a0 : Nat} {x1 : Int32} {r : MH} (hf : f_X1_reset h a0 x1 = some r) : Ev G 3 M_X1_reset 0 (ent M_X1_reset [.ref a0, .int x1]) [] h none r := by
  unfold f_X1_reset at hf
  show Ev G 3 M_X1_reset 0 [some (.ref a0), some (.int x1), none] [] h none r
  obtain ⟨-, hf⟩ := gK_of hf
  refine ev_aload_n i_X1_reset_0 rfl ?_
  refine ev_iload_n i_X1_reset_1 rfl ?_
  obtain ⟨h2, e2, hf⟩ := ob hf
  refine ev_pI i_X1_reset_2 fp_X1_reset_27 rfl e2 ?_
  refine ev_aload_n i_X1_reset_5 rfl ?_
  refine ev_iconst i_X1_reset_6 lt_i_0 ?_
  obtain ⟨h7, e7, hf⟩ := ob hf
  refine ev_pI i_X1_reset_7 fp_X1_reset_38 rfl e7 ?_
  refine ev_aload_n i_X1_reset_10 rfl ?_
  refine ev_iconst i_X1_reset_11 lt_i_0 ?_
  obtain ⟨h12, e12, hf⟩ := ob hf
  refine ev_pI i_X1_reset_12 fp_X1_reset_41 rfl e12 ?_
  refine ev_aload_n i_X1_reset_15 rfl ?_
  obtain ⟨b16, e16, hf⟩ := ob hf
  refine ev_gR i_X1_reset_16 fl_X1_9 rfl e16 ?_
  refine ev_iconst i_X1_reset_19 lt_i_m1 ?_
  obtain ⟨h20, e20, hf⟩ := ob hf
  refine ev_cS_v i_X1_reset_20 lk_X1_reset_31 [.ref b16, .int (-1 : Int32)] rfl rfl (by decide) (Nat.le_of_ble_eq_true rfl) (by decide) (e_J7_fill_53178 e20) ?_
  refine ev_iconst i_X1_reset_23 lt_i_0 ?_
  refine ev_istore_n i_X1_reset_24 (by decide) ?_
  refine ev_sub (lc2 := [some (.ref a0), none, some (.int (0 : Int32))]) ⟨Or.inr rfl, Or.inl rfl, Or.inr rfl, trivial⟩ ?_
  exact l_X1_reset_25 (fun he46 r hf => by
    cases hf
    exact ev_vret i_X1_reset_46 rfl) fuel h20 (0 : Int32) _ hf
def f_X1_forget (h : MH) (a0 : Nat) : Option MH := gK h a0 1 ((pZ h a0 1 4 (0 : Int32)).bind fun h2 => some h2)
set_option maxRecDepth 20000 in
theorem e_X1_forget {G : GG} {h : MH} {a0 : Nat} {r : MH} (hf : f_X1_forget h a0 = some r) : Ev G 0 M_X1_forget 0 (ent M_X1_forget [.ref a0]) [] h none r := by
  unfold f_X1_forget at hf
  show Ev G 0 M_X1_forget 0 [some (.ref a0)] [] h none r
  obtain ⟨-, hf⟩ := gK_of hf
  refine ev_aload_n i_X1_forget_0 rfl ?_
  refine ev_iconst i_X1_forget_1 lt_i_0 ?_
  obtain ⟨h2, e2, hf⟩ := ob hf
  refine ev_pZ i_X1_forget_2 fp_X1_forget_47 rfl e2 ?_
  cases hf
  exact ev_vret i_X1_forget_5 rfl
def f_X1_switchCount (h : MH) (a0 : Nat) : Option Int32 := gK h a0 1 ((gI h a0 1 6).bind fun v1 => some v1)
set_option maxRecDepth 20000 in
theorem e_X1_switchCount {G : GG} {h : MH} {a0 : Nat} {r : Int32} (hf : f_X1_switchCount h a0 = some r) : Ev G 0 M_X1_switchCount 0 (ent M_X1_switchCount [.ref a0]) [] h (some (.int r)) h := by
  unfold f_X1_switchCount at hf
  show Ev G 0 M_X1_switchCount 0 [some (.ref a0)] [] h (some (.int r)) h
  obtain ⟨-, hf⟩ := gK_of hf
  refine ev_aload_n i_X1_switchCount_0 rfl ?_
  obtain ⟨v1, e1, hf⟩ := ob hf
  refine ev_gI i_X1_switchCount_1 fl_X1_27 rfl e1 ?_
  cases hf
  exact ev_iiret i_X1_switchCount_4 rfl
def f_X1_hostCount (h : MH) (a0 : Nat) : Option Int32 := gK h a0 1 ((gI h a0 1 7).bind fun v1 => some v1)
set_option maxRecDepth 20000 in
theorem e_X1_hostCount {G : GG} {h : MH} {a0 : Nat} {r : Int32} (hf : f_X1_hostCount h a0 = some r) : Ev G 0 M_X1_hostCount 0 (ent M_X1_hostCount [.ref a0]) [] h (some (.int r)) h := by
  unfold f_X1_hostCount at hf
  show Ev G 0 M_X1_hostCount 0 [some (.ref a0)] [] h (some (.int r)) h
  obtain ⟨-, hf⟩ := gK_of hf
  refine ev_aload_n i_X1_hostCount_0 rfl ?_
  obtain ⟨v1, e1, hf⟩ := ob hf
  refine ev_gI i_X1_hostCount_1 fl_X1_38 rfl e1 ?_
  cases hf
  exact ev_iiret i_X1_hostCount_4 rfl
def f_X1_linkCount (h : MH) (a0 : Nat) : Option Int32 := gK h a0 1 ((gI h a0 1 8).bind fun v1 => some v1)
set_option maxRecDepth 20000 in
theorem e_X1_linkCount {G : GG} {h : MH} {a0 : Nat} {r : Int32} (hf : f_X1_linkCount h a0 = some r) : Ev G 0 M_X1_linkCount 0 (ent M_X1_linkCount [.ref a0]) [] h (some (.int r)) h := by
  unfold f_X1_linkCount at hf
  show Ev G 0 M_X1_linkCount 0 [some (.ref a0)] [] h (some (.int r)) h
  obtain ⟨-, hf⟩ := gK_of hf
  refine ev_aload_n i_X1_linkCount_0 rfl ?_
  obtain ⟨v1, e1, hf⟩ := ob hf
  refine ev_gI i_X1_linkCount_1 fl_X1_41 rfl e1 ?_
  cases hf
  exact ev_iiret i_X1_linkCount_4 rfl
def f_X1_hasSwitch (h : MH) (a0 : Nat) (x1 : Int32) : Option Int32 := gK h a0 1 ((if x1 < 0 then (some (0 : Int32)) else ((gI h a0 1 6).bind fun v6 => (if v6 ≤ x1 then (some (0 : Int32)) else (some (1 : Int32))))))
set_option maxRecDepth 20000 in
theorem e_X1_hasSwitch {G : GG} {h : MH} {a0 : Nat} {x1 : Int32} {r : Int32} (hf : f_X1_hasSwitch h a0 x1 = some r) : Ev G 0 M_X1_hasSwitch 0 (ent M_X1_hasSwitch [.ref a0, .int x1]) [] h (some (.int r)) h := by
  unfold f_X1_hasSwitch at hf
  show Ev G 0 M_X1_hasSwitch 0 [some (.ref a0), some (.int x1)] [] h (some (.int r)) h
  obtain ⟨-, hf⟩ := gK_of hf
  refine ev_iload_n i_X1_hasSwitch_0 rfl ?_
  refine ev_if_lt (tg := 16) i_X1_hasSwitch_1 (by decide) (fun c1 => ?_) (fun c1 => ?_)
  · rw [if_pos c1] at hf
    refine ev_iconst i_X1_hasSwitch_16 lt_i_0 ?_
    cases hf
    exact ev_zret i_X1_hasSwitch_17 rfl (by decide)
  · rw [if_neg c1] at hf
    refine ev_iload_n i_X1_hasSwitch_4 rfl ?_
    refine ev_aload_n i_X1_hasSwitch_5 rfl ?_
    obtain ⟨v6, e6, hf⟩ := ob hf
    refine ev_gI i_X1_hasSwitch_6 fl_X1_27 rfl e6 ?_
    refine ev_icmp_ge (tg := 16) i_X1_hasSwitch_9 (by decide) (fun c9 => ?_) (fun c9 => ?_)
    · rw [if_pos c9] at hf
      refine ev_iconst i_X1_hasSwitch_16 lt_i_0 ?_
      cases hf
      exact ev_zret i_X1_hasSwitch_17 rfl (by decide)
    · rw [if_neg c9] at hf
      refine ev_iconst i_X1_hasSwitch_12 lt_i_1 ?_
      refine ev_goto (tg := 17) i_X1_hasSwitch_13 (by decide) ?_
      cases hf
      exact ev_zret i_X1_hasSwitch_17 rfl (by decide)
def f_X1_hasPort (h : MH) (a0 : Nat) (x1 : Int32) (x2 : Int32) : Option Int32 := gK h a0 1 ((f_X1_hasSwitch h a0 x1).bind fun v2 => (if v2 = 0 then (some (0 : Int32)) else ((if x2 < 0 then (some (0 : Int32)) else ((if (4 : Int32) ≤ x2 then (some (0 : Int32)) else (some (1 : Int32))))))))
set_option maxRecDepth 20000 in
theorem e_X1_hasPort {G : GG} {h : MH} {a0 : Nat} {x1 : Int32} {x2 : Int32} {r : Int32} (hf : f_X1_hasPort h a0 x1 x2 = some r) : Ev G 1 M_X1_hasPort 0 (ent M_X1_hasPort [.ref a0, .int x1, .int x2]) [] h (some (.int r)) h := by
  unfold f_X1_hasPort at hf
  show Ev G 1 M_X1_hasPort 0 [some (.ref a0), some (.int x1), some (.int x2)] [] h (some (.int r)) h
  obtain ⟨-, hf⟩ := gK_of hf
  refine ev_aload_n i_X1_hasPort_0 rfl ?_
  refine ev_iload_n i_X1_hasPort_1 rfl ?_
  obtain ⟨v2, e2, hf⟩ := ob hf
  refine ev_cV_i i_X1_hasPort_2 lk_X1_hasPort_51 [.int x1] rfl rfl (by decide) (gK_of e2).1.1 (gK_of e2).1.2 (Nat.le_of_ble_eq_true rfl) (by decide) (e_X1_hasSwitch e2) ?_
  refine ev_if_eq (tg := 21) i_X1_hasPort_5 (by decide) (fun c5 => ?_) (fun c5 => ?_)
  · rw [if_pos c5] at hf
    refine ev_iconst i_X1_hasPort_21 lt_i_0 ?_
    cases hf
    exact ev_zret i_X1_hasPort_22 rfl (by decide)
  · rw [if_neg c5] at hf
    refine ev_iload_n i_X1_hasPort_8 rfl ?_
    refine ev_if_lt (tg := 21) i_X1_hasPort_9 (by decide) (fun c9 => ?_) (fun c9 => ?_)
    · rw [if_pos c9] at hf
      refine ev_iconst i_X1_hasPort_21 lt_i_0 ?_
      cases hf
      exact ev_zret i_X1_hasPort_22 rfl (by decide)
    · rw [if_neg c9] at hf
      refine ev_iload_n i_X1_hasPort_12 rfl ?_
      refine ev_iconst i_X1_hasPort_13 lt_i_4 ?_
      refine ev_icmp_ge (tg := 21) i_X1_hasPort_14 (by decide) (fun c14 => ?_) (fun c14 => ?_)
      · rw [if_pos c14] at hf
        refine ev_iconst i_X1_hasPort_21 lt_i_0 ?_
        cases hf
        exact ev_zret i_X1_hasPort_22 rfl (by decide)
      · rw [if_neg c14] at hf
        refine ev_iconst i_X1_hasPort_17 lt_i_1 ?_
        refine ev_goto (tg := 22) i_X1_hasPort_18 (by decide) ?_
        cases hf
        exact ev_zret i_X1_hasPort_22 rfl (by decide)
def f_X1_hasHost (h : MH) (a0 : Nat) (x1 : Int32) : Option Int32 := gK h a0 1 ((if x1 < 0 then (some (0 : Int32)) else ((gI h a0 1 7).bind fun v6 => (if v6 ≤ x1 then (some (0 : Int32)) else (some (1 : Int32))))))
set_option maxRecDepth 20000 in
theorem e_X1_hasHost {G : GG} {h : MH} {a0 : Nat} {x1 : Int32} {r : Int32} (hf : f_X1_hasHost h a0 x1 = some r) : Ev G 0 M_X1_hasHost 0 (ent M_X1_hasHost [.ref a0, .int x1]) [] h (some (.int r)) h := by
  unfold f_X1_hasHost at hf
  show Ev G 0 M_X1_hasHost 0 [some (.ref a0), some (.int x1)] [] h (some (.int r)) h
  obtain ⟨-, hf⟩ := gK_of hf
  refine ev_iload_n i_X1_hasHost_0 rfl ?_
  refine ev_if_lt (tg := 16) i_X1_hasHost_1 (by decide) (fun c1 => ?_) (fun c1 => ?_)
  · rw [if_pos c1] at hf
    refine ev_iconst i_X1_hasHost_16 lt_i_0 ?_
    cases hf
    exact ev_zret i_X1_hasHost_17 rfl (by decide)
  · rw [if_neg c1] at hf
    refine ev_iload_n i_X1_hasHost_4 rfl ?_
    refine ev_aload_n i_X1_hasHost_5 rfl ?_
    obtain ⟨v6, e6, hf⟩ := ob hf
    refine ev_gI i_X1_hasHost_6 fl_X1_38 rfl e6 ?_
    refine ev_icmp_ge (tg := 16) i_X1_hasHost_9 (by decide) (fun c9 => ?_) (fun c9 => ?_)
    · rw [if_pos c9] at hf
      refine ev_iconst i_X1_hasHost_16 lt_i_0 ?_
      cases hf
      exact ev_zret i_X1_hasHost_17 rfl (by decide)
    · rw [if_neg c9] at hf
      refine ev_iconst i_X1_hasHost_12 lt_i_1 ?_
      refine ev_goto (tg := 17) i_X1_hasHost_13 (by decide) ?_
      cases hf
      exact ev_zret i_X1_hasHost_17 rfl (by decide)
def f_X1_hasMixture (h : MH) (a0 : Nat) (x1 : Int32) : Option Int32 := gK h a0 1 ((if x1 < 0 then (some (0 : Int32)) else ((f_X1_allNew h a0).bind fun v6 => (if v6 < x1 then (some (0 : Int32)) else (some (1 : Int32))))))
set_option maxRecDepth 20000 in
theorem e_X1_hasMixture {G : GG} {h : MH} {a0 : Nat} {x1 : Int32} {r : Int32} (hf : f_X1_hasMixture h a0 x1 = some r) : Ev G 1 M_X1_hasMixture 0 (ent M_X1_hasMixture [.ref a0, .int x1]) [] h (some (.int r)) h := by
  unfold f_X1_hasMixture at hf
  show Ev G 1 M_X1_hasMixture 0 [some (.ref a0), some (.int x1)] [] h (some (.int r)) h
  obtain ⟨-, hf⟩ := gK_of hf
  refine ev_iload_n i_X1_hasMixture_0 rfl ?_
  refine ev_if_lt (tg := 16) i_X1_hasMixture_1 (by decide) (fun c1 => ?_) (fun c1 => ?_)
  · rw [if_pos c1] at hf
    refine ev_iconst i_X1_hasMixture_16 lt_i_0 ?_
    cases hf
    exact ev_zret i_X1_hasMixture_17 rfl (by decide)
  · rw [if_neg c1] at hf
    refine ev_iload_n i_X1_hasMixture_4 rfl ?_
    refine ev_aload_n i_X1_hasMixture_5 rfl ?_
    obtain ⟨v6, e6, hf⟩ := ob hf
    refine ev_cV_i i_X1_hasMixture_6 lk_X1_hasMixture_55 [] rfl rfl (by decide) (gK_of e6).1.1 (gK_of e6).1.2 (Nat.le_of_ble_eq_true rfl) (by decide) (e_X1_allNew e6) ?_
    refine ev_icmp_gt (tg := 16) i_X1_hasMixture_9 (by decide) (fun c9 => ?_) (fun c9 => ?_)
    · rw [if_pos c9] at hf
      refine ev_iconst i_X1_hasMixture_16 lt_i_0 ?_
      cases hf
      exact ev_zret i_X1_hasMixture_17 rfl (by decide)
    · rw [if_neg c9] at hf
      refine ev_iconst i_X1_hasMixture_12 lt_i_1 ?_
      refine ev_goto (tg := 17) i_X1_hasMixture_13 (by decide) ?_
      cases hf
      exact ev_zret i_X1_hasMixture_17 rfl (by decide)
def f_X1_isFree (h : MH) (a0 : Nat) (x1 : Int32) (x2 : Int32) : Option Int32 := gK h a0 1 ((f_X1_hasPort h a0 x1 x2).bind fun v3 => (if v3 = 0 then (some (0 : Int32)) else ((gR h a0 1 0).bind fun b10 => (aI h b10 ((x1 * (4 : Int32)) + x2)).bind fun v18 => (if v18 = (-1 : Int32) then (some (1 : Int32)) else (some (0 : Int32))))))
set_option maxRecDepth 20000 in
theorem e_X1_isFree {G : GG} {h : MH} {a0 : Nat} {x1 : Int32} {x2 : Int32} {r : Int32} (hf : f_X1_isFree h a0 x1 x2 = some r) : Ev G 2 M_X1_isFree 0 (ent M_X1_isFree [.ref a0, .int x1, .int x2]) [] h (some (.int r)) h := by
  unfold f_X1_isFree at hf
  show Ev G 2 M_X1_isFree 0 [some (.ref a0), some (.int x1), some (.int x2)] [] h (some (.int r)) h
  obtain ⟨-, hf⟩ := gK_of hf
  refine ev_aload_n i_X1_isFree_0 rfl ?_
  refine ev_iload_n i_X1_isFree_1 rfl ?_
  refine ev_iload_n i_X1_isFree_2 rfl ?_
  obtain ⟨v3, e3, hf⟩ := ob hf
  refine ev_cV_i i_X1_isFree_3 lk_X1_isFree_59 [.int x1, .int x2] rfl rfl (by decide) (gK_of e3).1.1 (gK_of e3).1.2 (Nat.le_of_ble_eq_true rfl) (by decide) (e_X1_hasPort e3) ?_
  refine ev_if_eq (tg := 27) i_X1_isFree_6 (by decide) (fun c6 => ?_) (fun c6 => ?_)
  · rw [if_pos c6] at hf
    refine ev_iconst i_X1_isFree_27 lt_i_0 ?_
    cases hf
    exact ev_zret i_X1_isFree_28 rfl (by decide)
  · rw [if_neg c6] at hf
    refine ev_aload_n i_X1_isFree_9 rfl ?_
    obtain ⟨b10, e10, hf⟩ := ob hf
    refine ev_gR i_X1_isFree_10 fl_X1_9 rfl e10 ?_
    refine ev_iload_n i_X1_isFree_13 rfl ?_
    refine ev_iconst i_X1_isFree_14 lt_i_4 ?_
    refine ev_imul i_X1_isFree_15 ?_
    refine ev_iload_n i_X1_isFree_16 rfl ?_
    refine ev_iadd i_X1_isFree_17 ?_
    obtain ⟨v18, e18, hf⟩ := ob hf
    refine ev_aI i_X1_isFree_18 e18 ?_
    refine ev_iconst i_X1_isFree_19 lt_i_m1 ?_
    refine ev_icmp_ne (tg := 27) i_X1_isFree_20 (by decide) (fun c20 => ?_) (fun c20 => ?_)
    · rw [if_neg c20] at hf
      refine ev_iconst i_X1_isFree_27 lt_i_0 ?_
      cases hf
      exact ev_zret i_X1_isFree_28 rfl (by decide)
    · rw [if_pos c20] at hf
      refine ev_iconst i_X1_isFree_23 lt_i_1 ?_
      refine ev_goto (tg := 28) i_X1_isFree_24 (by decide) ?_
      cases hf
      exact ev_zret i_X1_isFree_28 rfl (by decide)
def f_X1_join (h : MH) (a0 : Nat) (x1 : Int32) (x2 : Int32) (x3 : Int32) (x4 : Int32) : Option MH := gK h a0 1 ((f_X1_hasPort h a0 x1 x2).bind fun v3 => (if v3 = 0 then (some h) else ((f_X1_hasPort h a0 x3 x4).bind fun v13 => (if v13 = 0 then (some h) else ((gR h a0 1 0).bind fun b21 => (sI h b21 ((x1 * (4 : Int32)) + x2) ((x3 * (4 : Int32)) + x4)).bind fun h35 => (gR h35 a0 1 0).bind fun b37 => (sI h35 b37 ((x3 * (4 : Int32)) + x4) ((x1 * (4 : Int32)) + x2)).bind fun h51 => (gI h51 a0 1 8).bind fun v54 => (pI h51 a0 1 8 (v54 + (1 : Int32))).bind fun h59 => some h59)))))
set_option maxRecDepth 20000 in
theorem e_X1_join {G : GG} {h : MH} {a0 : Nat} {x1 : Int32} {x2 : Int32} {x3 : Int32} {x4 : Int32} {r : MH} (hf : f_X1_join h a0 x1 x2 x3 x4 = some r) : Ev G 2 M_X1_join 0 (ent M_X1_join [.ref a0, .int x1, .int x2, .int x3, .int x4]) [] h none r := by
  unfold f_X1_join at hf
  show Ev G 2 M_X1_join 0 [some (.ref a0), some (.int x1), some (.int x2), some (.int x3), some (.int x4)] [] h none r
  obtain ⟨-, hf⟩ := gK_of hf
  refine ev_aload_n i_X1_join_0 rfl ?_
  refine ev_iload_n i_X1_join_1 rfl ?_
  refine ev_iload_n i_X1_join_2 rfl ?_
  obtain ⟨v3, e3, hf⟩ := ob hf
  refine ev_cV_i i_X1_join_3 lk_X1_join_59 [.int x1, .int x2] rfl rfl (by decide) (gK_of e3).1.1 (gK_of e3).1.2 (Nat.le_of_ble_eq_true rfl) (by decide) (e_X1_hasPort e3) ?_
  refine ev_if_eq (tg := 19) i_X1_join_6 (by decide) (fun c6 => ?_) (fun c6 => ?_)
  · rw [if_pos c6] at hf
    cases hf
    exact ev_vret i_X1_join_19 rfl
  · rw [if_neg c6] at hf
    refine ev_aload_n i_X1_join_9 rfl ?_
    refine ev_iload_n i_X1_join_10 rfl ?_
    refine ev_iload i_X1_join_11 rfl ?_
    obtain ⟨v13, e13, hf⟩ := ob hf
    refine ev_cV_i i_X1_join_13 lk_X1_join_59 [.int x3, .int x4] rfl rfl (by decide) (gK_of e13).1.1 (gK_of e13).1.2 (Nat.le_of_ble_eq_true rfl) (by decide) (e_X1_hasPort e13) ?_
    refine ev_if_ne (tg := 20) i_X1_join_16 (by decide) (fun c16 => ?_) (fun c16 => ?_)
    · rw [if_neg c16] at hf
      refine ev_aload_n i_X1_join_20 rfl ?_
      obtain ⟨b21, e21, hf⟩ := ob hf
      refine ev_gR i_X1_join_21 fl_X1_9 rfl e21 ?_
      refine ev_iload_n i_X1_join_24 rfl ?_
      refine ev_iconst i_X1_join_25 lt_i_4 ?_
      refine ev_imul i_X1_join_26 ?_
      refine ev_iload_n i_X1_join_27 rfl ?_
      refine ev_iadd i_X1_join_28 ?_
      refine ev_iload_n i_X1_join_29 rfl ?_
      refine ev_iconst i_X1_join_30 lt_i_4 ?_
      refine ev_imul i_X1_join_31 ?_
      refine ev_iload i_X1_join_32 rfl ?_
      refine ev_iadd i_X1_join_34 ?_
      obtain ⟨h35, e35, hf⟩ := ob hf
      refine ev_sI i_X1_join_35 e35 ?_
      refine ev_aload_n i_X1_join_36 rfl ?_
      obtain ⟨b37, e37, hf⟩ := ob hf
      refine ev_gR i_X1_join_37 fl_X1_9 rfl e37 ?_
      refine ev_iload_n i_X1_join_40 rfl ?_
      refine ev_iconst i_X1_join_41 lt_i_4 ?_
      refine ev_imul i_X1_join_42 ?_
      refine ev_iload i_X1_join_43 rfl ?_
      refine ev_iadd i_X1_join_45 ?_
      refine ev_iload_n i_X1_join_46 rfl ?_
      refine ev_iconst i_X1_join_47 lt_i_4 ?_
      refine ev_imul i_X1_join_48 ?_
      refine ev_iload_n i_X1_join_49 rfl ?_
      refine ev_iadd i_X1_join_50 ?_
      obtain ⟨h51, e51, hf⟩ := ob hf
      refine ev_sI i_X1_join_51 e51 ?_
      refine ev_aload_n i_X1_join_52 rfl ?_
      refine ev_dup i_X1_join_53 ?_
      obtain ⟨v54, e54, hf⟩ := ob hf
      refine ev_gI i_X1_join_54 fl_X1_41 rfl e54 ?_
      refine ev_iconst i_X1_join_57 lt_i_1 ?_
      refine ev_iadd i_X1_join_58 ?_
      obtain ⟨h59, e59, hf⟩ := ob hf
      refine ev_pI i_X1_join_59 fp_X1_join_41 rfl e59 ?_
      cases hf
      exact ev_vret i_X1_join_62 rfl
    · rw [if_pos c16] at hf
      cases hf
      exact ev_vret i_X1_join_19 rfl
def f_X1_addHost (h : MH) (a0 : Nat) (x1 : Int32) (x2 : Int32) : Option (Int32 × MH) := gK h a0 1 ((f_X1_hasPort h a0 x1 x2).bind fun v3 => (if v3 = 0 then (some ((-1 : Int32), h)) else ((gI h a0 1 7).bind fun v10 => (if v10 < (6 : Int32) then ((gR h a0 1 0).bind fun b21 => (gI h a0 1 7).bind fun v32 => (sI h b21 ((x1 * (4 : Int32)) + x2) ((100 : Int32) + v32)).bind fun h36 => (gR h36 a0 1 1).bind fun b38 => (gI h36 a0 1 7).bind fun v42 => (sI h36 b38 v42 x1).bind fun h46 => (gI h46 a0 1 7).bind fun v49 => (pI h46 a0 1 7 (v49 + (1 : Int32))).bind fun h54 => (gI h54 a0 1 7).bind fun v58 => some ((v58 - (1 : Int32)), h54)) else (some ((-1 : Int32), h))))))
set_option maxRecDepth 20000 in
theorem e_X1_addHost {G : GG} {h : MH} {a0 : Nat} {x1 : Int32} {x2 : Int32} {r : (Int32 × MH)} (hf : f_X1_addHost h a0 x1 x2 = some r) : Ev G 2 M_X1_addHost 0 (ent M_X1_addHost [.ref a0, .int x1, .int x2]) [] h (some (.int r.1)) r.2 := by
  unfold f_X1_addHost at hf
  show Ev G 2 M_X1_addHost 0 [some (.ref a0), some (.int x1), some (.int x2)] [] h (some (.int r.1)) r.2
  obtain ⟨-, hf⟩ := gK_of hf
  refine ev_aload_n i_X1_addHost_0 rfl ?_
  refine ev_iload_n i_X1_addHost_1 rfl ?_
  refine ev_iload_n i_X1_addHost_2 rfl ?_
  obtain ⟨v3, e3, hf⟩ := ob hf
  refine ev_cV_i i_X1_addHost_3 lk_X1_addHost_59 [.int x1, .int x2] rfl rfl (by decide) (gK_of e3).1.1 (gK_of e3).1.2 (Nat.le_of_ble_eq_true rfl) (by decide) (e_X1_hasPort e3) ?_
  refine ev_if_eq (tg := 18) i_X1_addHost_6 (by decide) (fun c6 => ?_) (fun c6 => ?_)
  · rw [if_pos c6] at hf
    refine ev_iconst i_X1_addHost_18 lt_i_m1 ?_
    cases hf
    exact ev_iiret i_X1_addHost_19 rfl
  · rw [if_neg c6] at hf
    refine ev_aload_n i_X1_addHost_9 rfl ?_
    obtain ⟨v10, e10, hf⟩ := ob hf
    refine ev_gI i_X1_addHost_10 fl_X1_38 rfl e10 ?_
    refine ev_bipush i_X1_addHost_13 lt_b_6 ?_
    refine ev_icmp_lt (tg := 20) i_X1_addHost_15 (by decide) (fun c15 => ?_) (fun c15 => ?_)
    · rw [if_pos c15] at hf
      refine ev_aload_n i_X1_addHost_20 rfl ?_
      obtain ⟨b21, e21, hf⟩ := ob hf
      refine ev_gR i_X1_addHost_21 fl_X1_9 rfl e21 ?_
      refine ev_iload_n i_X1_addHost_24 rfl ?_
      refine ev_iconst i_X1_addHost_25 lt_i_4 ?_
      refine ev_imul i_X1_addHost_26 ?_
      refine ev_iload_n i_X1_addHost_27 rfl ?_
      refine ev_iadd i_X1_addHost_28 ?_
      refine ev_bipush i_X1_addHost_29 lt_b_100 ?_
      refine ev_aload_n i_X1_addHost_31 rfl ?_
      obtain ⟨v32, e32, hf⟩ := ob hf
      refine ev_gI i_X1_addHost_32 fl_X1_38 rfl e32 ?_
      refine ev_iadd i_X1_addHost_35 ?_
      obtain ⟨h36, e36, hf⟩ := ob hf
      refine ev_sI i_X1_addHost_36 e36 ?_
      refine ev_aload_n i_X1_addHost_37 rfl ?_
      obtain ⟨b38, e38, hf⟩ := ob hf
      refine ev_gR i_X1_addHost_38 fl_X1_15 rfl e38 ?_
      refine ev_aload_n i_X1_addHost_41 rfl ?_
      obtain ⟨v42, e42, hf⟩ := ob hf
      refine ev_gI i_X1_addHost_42 fl_X1_38 rfl e42 ?_
      refine ev_iload_n i_X1_addHost_45 rfl ?_
      obtain ⟨h46, e46, hf⟩ := ob hf
      refine ev_sI i_X1_addHost_46 e46 ?_
      refine ev_aload_n i_X1_addHost_47 rfl ?_
      refine ev_dup i_X1_addHost_48 ?_
      obtain ⟨v49, e49, hf⟩ := ob hf
      refine ev_gI i_X1_addHost_49 fl_X1_38 rfl e49 ?_
      refine ev_iconst i_X1_addHost_52 lt_i_1 ?_
      refine ev_iadd i_X1_addHost_53 ?_
      obtain ⟨h54, e54, hf⟩ := ob hf
      refine ev_pI i_X1_addHost_54 fp_X1_addHost_38 rfl e54 ?_
      refine ev_aload_n i_X1_addHost_57 rfl ?_
      obtain ⟨v58, e58, hf⟩ := ob hf
      refine ev_gI i_X1_addHost_58 fl_X1_38 rfl e58 ?_
      refine ev_iconst i_X1_addHost_61 lt_i_1 ?_
      refine ev_isub i_X1_addHost_62 ?_
      cases hf
      exact ev_iiret i_X1_addHost_63 rfl
    · rw [if_neg c15] at hf
      refine ev_iconst i_X1_addHost_18 lt_i_m1 ?_
      cases hf
      exact ev_iiret i_X1_addHost_19 rfl
def f_X1_hostAt (h : MH) (a0 : Nat) (x1 : Int32) (x2 : Int32) : Option Int32 := gK h a0 1 ((f_X1_hasPort h a0 x1 x2).bind fun v3 => (if v3 = 0 then (some (-1 : Int32)) else ((gR h a0 1 0).bind fun b10 => (aI h b10 ((x1 * (4 : Int32)) + x2)).bind fun v18 => (if (100 : Int32) ≤ v18 then ((gR h a0 1 0).bind fun b27 => (aI h b27 ((x1 * (4 : Int32)) + x2)).bind fun v35 => some (v35 - (100 : Int32))) else (some (-1 : Int32))))))
set_option maxRecDepth 20000 in
theorem e_X1_hostAt {G : GG} {h : MH} {a0 : Nat} {x1 : Int32} {x2 : Int32} {r : Int32} (hf : f_X1_hostAt h a0 x1 x2 = some r) : Ev G 2 M_X1_hostAt 0 (ent M_X1_hostAt [.ref a0, .int x1, .int x2]) [] h (some (.int r)) h := by
  unfold f_X1_hostAt at hf
  show Ev G 2 M_X1_hostAt 0 [some (.ref a0), some (.int x1), some (.int x2)] [] h (some (.int r)) h
  obtain ⟨-, hf⟩ := gK_of hf
  refine ev_aload_n i_X1_hostAt_0 rfl ?_
  refine ev_iload_n i_X1_hostAt_1 rfl ?_
  refine ev_iload_n i_X1_hostAt_2 rfl ?_
  obtain ⟨v3, e3, hf⟩ := ob hf
  refine ev_cV_i i_X1_hostAt_3 lk_X1_hostAt_59 [.int x1, .int x2] rfl rfl (by decide) (gK_of e3).1.1 (gK_of e3).1.2 (Nat.le_of_ble_eq_true rfl) (by decide) (e_X1_hasPort e3) ?_
  refine ev_if_eq (tg := 24) i_X1_hostAt_6 (by decide) (fun c6 => ?_) (fun c6 => ?_)
  · rw [if_pos c6] at hf
    refine ev_iconst i_X1_hostAt_24 lt_i_m1 ?_
    cases hf
    exact ev_iiret i_X1_hostAt_25 rfl
  · rw [if_neg c6] at hf
    refine ev_aload_n i_X1_hostAt_9 rfl ?_
    obtain ⟨b10, e10, hf⟩ := ob hf
    refine ev_gR i_X1_hostAt_10 fl_X1_9 rfl e10 ?_
    refine ev_iload_n i_X1_hostAt_13 rfl ?_
    refine ev_iconst i_X1_hostAt_14 lt_i_4 ?_
    refine ev_imul i_X1_hostAt_15 ?_
    refine ev_iload_n i_X1_hostAt_16 rfl ?_
    refine ev_iadd i_X1_hostAt_17 ?_
    obtain ⟨v18, e18, hf⟩ := ob hf
    refine ev_aI i_X1_hostAt_18 e18 ?_
    refine ev_bipush i_X1_hostAt_19 lt_b_100 ?_
    refine ev_icmp_ge (tg := 26) i_X1_hostAt_21 (by decide) (fun c21 => ?_) (fun c21 => ?_)
    · rw [if_pos c21] at hf
      refine ev_aload_n i_X1_hostAt_26 rfl ?_
      obtain ⟨b27, e27, hf⟩ := ob hf
      refine ev_gR i_X1_hostAt_27 fl_X1_9 rfl e27 ?_
      refine ev_iload_n i_X1_hostAt_30 rfl ?_
      refine ev_iconst i_X1_hostAt_31 lt_i_4 ?_
      refine ev_imul i_X1_hostAt_32 ?_
      refine ev_iload_n i_X1_hostAt_33 rfl ?_
      refine ev_iadd i_X1_hostAt_34 ?_
      obtain ⟨v35, e35, hf⟩ := ob hf
      refine ev_aI i_X1_hostAt_35 e35 ?_
      refine ev_bipush i_X1_hostAt_36 lt_b_100 ?_
      refine ev_isub i_X1_hostAt_38 ?_
      cases hf
      exact ev_iiret i_X1_hostAt_39 rfl
    · rw [if_neg c21] at hf
      refine ev_iconst i_X1_hostAt_24 lt_i_m1 ?_
      cases hf
      exact ev_iiret i_X1_hostAt_25 rfl
def f_X1_clear_j67 (h : MH) (a0 : Nat) (x1 : Int32) (x2 : Int32) : Option MH := (gR h a0 1 0).bind fun b68 => (sI h b68 ((x1 * (4 : Int32)) + x2) (-1 : Int32)).bind fun h77 => some h77
set_option maxRecDepth 20000 in
theorem j_X1_clear_67 {G : GG} {h : MH} {a0 : Nat} {x1 : Int32} {x2 : Int32} {r : MH} (hf : f_X1_clear_j67 h a0 x1 x2 = some r) : Ev G 2 M_X1_clear 67 [some (.ref a0), some (.int x1), some (.int x2), none] [] h none r := by
  unfold f_X1_clear_j67 at hf
  refine ev_aload_n i_X1_clear_67 rfl ?_
  obtain ⟨b68, e68, hf⟩ := ob hf
  refine ev_gR i_X1_clear_68 fl_X1_9 rfl e68 ?_
  refine ev_iload_n i_X1_clear_71 rfl ?_
  refine ev_iconst i_X1_clear_72 lt_i_4 ?_
  refine ev_imul i_X1_clear_73 ?_
  refine ev_iload_n i_X1_clear_74 rfl ?_
  refine ev_iadd i_X1_clear_75 ?_
  refine ev_iconst i_X1_clear_76 lt_i_m1 ?_
  obtain ⟨h77, e77, hf⟩ := ob hf
  refine ev_sI i_X1_clear_77 e77 ?_
  cases hf
  exact ev_vret i_X1_clear_78 rfl
def f_X1_clear (h : MH) (a0 : Nat) (x1 : Int32) (x2 : Int32) : Option MH := gK h a0 1 ((f_X1_hasPort h a0 x1 x2).bind fun v3 => (if v3 = 0 then (some h) else ((gR h a0 1 0).bind fun b11 => (aI h b11 ((x1 * (4 : Int32)) + x2)).bind fun v19 => (if v19 < (100 : Int32) then ((if v19 < 0 then (f_X1_clear_j67 h a0 x1 x2) else ((if (28 : Int32) ≤ v19 then (f_X1_clear_j67 h a0 x1 x2) else ((gR h a0 1 0).bind fun b51 => (sI h b51 v19 (-1 : Int32)).bind fun h56 => (gI h56 a0 1 8).bind fun v59 => (pI h56 a0 1 8 (v59 - (1 : Int32))).bind fun h64 => f_X1_clear_j67 h64 a0 x1 x2))))) else ((gI h a0 1 7).bind fun v29 => (pI h a0 1 7 (v29 - (1 : Int32))).bind fun h34 => f_X1_clear_j67 h34 a0 x1 x2)))))
set_option maxRecDepth 20000 in
theorem e_X1_clear {G : GG} {h : MH} {a0 : Nat} {x1 : Int32} {x2 : Int32} {r : MH} (hf : f_X1_clear h a0 x1 x2 = some r) : Ev G 2 M_X1_clear 0 (ent M_X1_clear [.ref a0, .int x1, .int x2]) [] h none r := by
  unfold f_X1_clear at hf
  show Ev G 2 M_X1_clear 0 [some (.ref a0), some (.int x1), some (.int x2), none] [] h none r
  obtain ⟨-, hf⟩ := gK_of hf
  refine ev_aload_n i_X1_clear_0 rfl ?_
  refine ev_iload_n i_X1_clear_1 rfl ?_
  refine ev_iload_n i_X1_clear_2 rfl ?_
  obtain ⟨v3, e3, hf⟩ := ob hf
  refine ev_cV_i i_X1_clear_3 lk_X1_clear_59 [.int x1, .int x2] rfl rfl (by decide) (gK_of e3).1.1 (gK_of e3).1.2 (Nat.le_of_ble_eq_true rfl) (by decide) (e_X1_hasPort e3) ?_
  refine ev_if_ne (tg := 10) i_X1_clear_6 (by decide) (fun c6 => ?_) (fun c6 => ?_)
  · rw [if_neg c6] at hf
    refine ev_aload_n i_X1_clear_10 rfl ?_
    obtain ⟨b11, e11, hf⟩ := ob hf
    refine ev_gR i_X1_clear_11 fl_X1_9 rfl e11 ?_
    refine ev_iload_n i_X1_clear_14 rfl ?_
    refine ev_iconst i_X1_clear_15 lt_i_4 ?_
    refine ev_imul i_X1_clear_16 ?_
    refine ev_iload_n i_X1_clear_17 rfl ?_
    refine ev_iadd i_X1_clear_18 ?_
    obtain ⟨v19, e19, hf⟩ := ob hf
    refine ev_aI i_X1_clear_19 e19 ?_
    refine ev_istore_n i_X1_clear_20 (by decide) ?_
    refine ev_iload_n i_X1_clear_21 rfl ?_
    refine ev_bipush i_X1_clear_22 lt_b_100 ?_
    refine ev_icmp_lt (tg := 40) i_X1_clear_24 (by decide) (fun c24 => ?_) (fun c24 => ?_)
    · rw [if_pos c24] at hf
      refine ev_iload_n i_X1_clear_40 rfl ?_
      refine ev_if_lt (tg := 67) i_X1_clear_41 (by decide) (fun c41 => ?_) (fun c41 => ?_)
      · rw [if_pos c41] at hf
        refine ev_sub (lc2 := [some (.ref a0), some (.int x1), some (.int x2), none]) ⟨Or.inr rfl, Or.inr rfl, Or.inr rfl, Or.inl rfl, trivial⟩ ?_
        exact j_X1_clear_67 hf
      · rw [if_neg c41] at hf
        refine ev_iload_n i_X1_clear_44 rfl ?_
        refine ev_bipush i_X1_clear_45 lt_b_28 ?_
        refine ev_icmp_ge (tg := 67) i_X1_clear_47 (by decide) (fun c47 => ?_) (fun c47 => ?_)
        · rw [if_pos c47] at hf
          refine ev_sub (lc2 := [some (.ref a0), some (.int x1), some (.int x2), none]) ⟨Or.inr rfl, Or.inr rfl, Or.inr rfl, Or.inl rfl, trivial⟩ ?_
          exact j_X1_clear_67 hf
        · rw [if_neg c47] at hf
          refine ev_aload_n i_X1_clear_50 rfl ?_
          obtain ⟨b51, e51, hf⟩ := ob hf
          refine ev_gR i_X1_clear_51 fl_X1_9 rfl e51 ?_
          refine ev_iload_n i_X1_clear_54 rfl ?_
          refine ev_iconst i_X1_clear_55 lt_i_m1 ?_
          obtain ⟨h56, e56, hf⟩ := ob hf
          refine ev_sI i_X1_clear_56 e56 ?_
          refine ev_aload_n i_X1_clear_57 rfl ?_
          refine ev_dup i_X1_clear_58 ?_
          obtain ⟨v59, e59, hf⟩ := ob hf
          refine ev_gI i_X1_clear_59 fl_X1_41 rfl e59 ?_
          refine ev_iconst i_X1_clear_62 lt_i_1 ?_
          refine ev_isub i_X1_clear_63 ?_
          obtain ⟨h64, e64, hf⟩ := ob hf
          refine ev_pI i_X1_clear_64 fp_X1_clear_41 rfl e64 ?_
          refine ev_sub (lc2 := [some (.ref a0), some (.int x1), some (.int x2), none]) ⟨Or.inr rfl, Or.inr rfl, Or.inr rfl, Or.inl rfl, trivial⟩ ?_
          exact j_X1_clear_67 hf
    · rw [if_neg c24] at hf
      refine ev_aload_n i_X1_clear_27 rfl ?_
      refine ev_dup i_X1_clear_28 ?_
      obtain ⟨v29, e29, hf⟩ := ob hf
      refine ev_gI i_X1_clear_29 fl_X1_38 rfl e29 ?_
      refine ev_iconst i_X1_clear_32 lt_i_1 ?_
      refine ev_isub i_X1_clear_33 ?_
      obtain ⟨h34, e34, hf⟩ := ob hf
      refine ev_pI i_X1_clear_34 fp_X1_clear_38 rfl e34 ?_
      refine ev_goto (tg := 67) i_X1_clear_37 (by decide) ?_
      refine ev_sub (lc2 := [some (.ref a0), some (.int x1), some (.int x2), none]) ⟨Or.inr rfl, Or.inr rfl, Or.inr rfl, Or.inl rfl, trivial⟩ ?_
      exact j_X1_clear_67 hf
  · rw [if_pos c6] at hf
    cases hf
    exact ev_vret i_X1_clear_9 rfl
def f_X1_rowOf_j9 (h : MH) (a0 : Nat) (x1 : Int32) (x2 : Int32) : Option (Option Nat) := (f_X1_hasSwitch h a0 x2).bind fun v11 => (if v11 = 0 then (some none) else ((gR h a0 1 2).bind fun b20 => (aR h b20 ((x1 * (7 : Int32)) + x2)).bind fun b29 => some (some b29)))
set_option maxRecDepth 20000 in
theorem j_X1_rowOf_9 {G : GG} {h : MH} {a0 : Nat} {x1 : Int32} {x2 : Int32} {r : (Option Nat)} (hf : f_X1_rowOf_j9 h a0 x1 x2 = some r) : Ev G 1 M_X1_rowOf 9 [some (.ref a0), some (.int x1), some (.int x2)] [] h (some (va_rf r)) h := by
  unfold f_X1_rowOf_j9 at hf
  refine ev_aload_n i_X1_rowOf_9 rfl ?_
  refine ev_iload_n i_X1_rowOf_10 rfl ?_
  obtain ⟨v11, e11, hf⟩ := ob hf
  refine ev_cV_i i_X1_rowOf_11 lk_X1_rowOf_51 [.int x2] rfl rfl (by decide) (gK_of e11).1.1 (gK_of e11).1.2 (Nat.le_of_ble_eq_true rfl) (by decide) (e_X1_hasSwitch e11) ?_
  refine ev_if_ne (tg := 19) i_X1_rowOf_14 (by decide) (fun c14 => ?_) (fun c14 => ?_)
  · rw [if_neg c14] at hf
    refine ev_aload_n i_X1_rowOf_19 rfl ?_
    obtain ⟨b20, e20, hf⟩ := ob hf
    refine ev_gR i_X1_rowOf_20 fl_X1_20 rfl e20 ?_
    refine ev_iload_n i_X1_rowOf_23 rfl ?_
    refine ev_bipush i_X1_rowOf_24 lt_b_7 ?_
    refine ev_imul i_X1_rowOf_26 ?_
    refine ev_iload_n i_X1_rowOf_27 rfl ?_
    refine ev_iadd i_X1_rowOf_28 ?_
    obtain ⟨b29, e29, hf⟩ := ob hf
    refine ev_aR i_X1_rowOf_29 e29 ?_
    cases hf
    exact ev_aret i_X1_rowOf_30 rfl (Or.inr ⟨_, rfl⟩)
  · rw [if_pos c14] at hf
    refine ev_null i_X1_rowOf_17 ?_
    cases hf
    exact ev_aret i_X1_rowOf_18 rfl (Or.inl rfl)
def f_X1_rowOf (h : MH) (a0 : Nat) (x1 : Int32) (x2 : Int32) : Option (Option Nat) := gK h a0 1 ((if x1 = 0 then (f_X1_rowOf_j9 h a0 x1 x2) else ((if x1 = (1 : Int32) then (f_X1_rowOf_j9 h a0 x1 x2) else (some none)))))
set_option maxRecDepth 20000 in
theorem e_X1_rowOf {G : GG} {h : MH} {a0 : Nat} {x1 : Int32} {x2 : Int32} {r : (Option Nat)} (hf : f_X1_rowOf h a0 x1 x2 = some r) : Ev G 1 M_X1_rowOf 0 (ent M_X1_rowOf [.ref a0, .int x1, .int x2]) [] h (some (va_rf r)) h := by
  unfold f_X1_rowOf at hf
  show Ev G 1 M_X1_rowOf 0 [some (.ref a0), some (.int x1), some (.int x2)] [] h (some (va_rf r)) h
  obtain ⟨-, hf⟩ := gK_of hf
  refine ev_iload_n i_X1_rowOf_0 rfl ?_
  refine ev_if_eq (tg := 9) i_X1_rowOf_1 (by decide) (fun c1 => ?_) (fun c1 => ?_)
  · rw [if_pos c1] at hf
    exact j_X1_rowOf_9 hf
  · rw [if_neg c1] at hf
    refine ev_iload_n i_X1_rowOf_4 rfl ?_
    refine ev_iconst i_X1_rowOf_5 lt_i_1 ?_
    refine ev_icmp_ne (tg := 17) i_X1_rowOf_6 (by decide) (fun c6 => ?_) (fun c6 => ?_)
    · rw [if_neg c6] at hf
      refine ev_null i_X1_rowOf_17 ?_
      cases hf
      exact ev_aret i_X1_rowOf_18 rfl (Or.inl rfl)
    · rw [if_pos c6] at hf
      exact j_X1_rowOf_9 hf
def f_X1_ruleCount_L4 (k28 : Int32 → Option Int32) (h : MH) (a0 : Nat) : Nat → Int32 → Int32 → Option Int32
  | 0, _, _ => none
  | n + 1, x1, x2 => (if (14 : Int32) ≤ x2 then (k28 x1) else ((gR h a0 1 2).bind fun b12 => (aR h b12 x2).bind fun b16 => (f_X5_size h b16).bind fun v17 => f_X1_ruleCount_L4 k28 h a0 n (x1 + v17) (x2 + (1 : Int32))))
set_option maxRecDepth 20000 in
theorem l_X1_ruleCount_4 {G : GG} {k28 : Int32 → Option Int32} {h : MH} {a0 : Nat} (hk28 : ∀ (x1z : Int32) (r : Int32), k28 x1z = some r → Ev G 1 M_X1_ruleCount 28 [none, some (.int x1z), none] [] h (some (.int r)) h) : ∀ (n : Nat) (x1 : Int32) (x2 : Int32) (r : Int32), f_X1_ruleCount_L4 k28 h a0 n x1 x2 = some r → Ev G 1 M_X1_ruleCount 4 [some (.ref a0), some (.int x1), some (.int x2)] [] h (some (.int r)) h := by
  intro n
  induction n with
  | zero => intro x1 x2 r hf; rw [f_X1_ruleCount_L4] at hf; cases hf
  | succ n ih =>
    intro x1 x2 r hf
    rw [f_X1_ruleCount_L4] at hf
    refine ev_iload_n i_X1_ruleCount_4 rfl ?_
    refine ev_bipush i_X1_ruleCount_5 lt_b_14 ?_
    refine ev_icmp_ge (tg := 28) i_X1_ruleCount_7 (by decide) (fun c7 => ?_) (fun c7 => ?_)
    · rw [if_pos c7] at hf
      refine ev_sub (lc2 := [none, some (.int x1), none]) ⟨Or.inl rfl, Or.inr rfl, Or.inl rfl, trivial⟩ ?_
      exact hk28 x1 _ hf
    · rw [if_neg c7] at hf
      refine ev_iload_n i_X1_ruleCount_10 rfl ?_
      refine ev_aload_n i_X1_ruleCount_11 rfl ?_
      obtain ⟨b12, e12, hf⟩ := ob hf
      refine ev_gR i_X1_ruleCount_12 fl_X1_20 rfl e12 ?_
      refine ev_iload_n i_X1_ruleCount_15 rfl ?_
      obtain ⟨b16, e16, hf⟩ := ob hf
      refine ev_aR i_X1_ruleCount_16 e16 ?_
      obtain ⟨v17, e17, hf⟩ := ob hf
      refine ev_cV_i i_X1_ruleCount_17 lk_X1_ruleCount_63 [] rfl rfl (by decide) (gK_of e17).1.1 (gK_of e17).1.2 (Nat.le_of_ble_eq_true rfl) (by decide) (e_X5_size e17) ?_
      refine ev_iadd i_X1_ruleCount_20 ?_
      refine ev_istore_n i_X1_ruleCount_21 (by decide) ?_
      refine ev_iinc (y := (x2 + (1 : Int32))) i_X1_ruleCount_22 rfl rfl (by decide) ?_
      refine ev_goto (tg := 4) i_X1_ruleCount_25 (by decide) ?_
      exact ih (x1 + v17) (x2 + (1 : Int32)) _ hf
def f_X1_ruleCount (h : MH) (a0 : Nat) : Option Int32 := gK h a0 1 (f_X1_ruleCount_L4 (fun x1e28 => some x1e28) h a0 fuel (0 : Int32) (0 : Int32))
set_option maxRecDepth 20000 in
theorem e_X1_ruleCount {G : GG} {h : MH} {a0 : Nat} {r : Int32} (hf : f_X1_ruleCount h a0 = some r) : Ev G 1 M_X1_ruleCount 0 (ent M_X1_ruleCount [.ref a0]) [] h (some (.int r)) h := by
  unfold f_X1_ruleCount at hf
  show Ev G 1 M_X1_ruleCount 0 [some (.ref a0), none, none] [] h (some (.int r)) h
  obtain ⟨-, hf⟩ := gK_of hf
  refine ev_iconst i_X1_ruleCount_0 lt_i_0 ?_
  refine ev_istore_n i_X1_ruleCount_1 (by decide) ?_
  refine ev_iconst i_X1_ruleCount_2 lt_i_0 ?_
  refine ev_istore_n i_X1_ruleCount_3 (by decide) ?_
  exact l_X1_ruleCount_4 (fun x1e28 r hf => by
    refine ev_iload_n i_X1_ruleCount_28 rfl ?_
    cases hf
    exact ev_iiret i_X1_ruleCount_29 rfl) fuel (0 : Int32) (0 : Int32) _ hf
def f_X9_isMark (h : MH) (x0 : Int32) : Option Int32 := (if x0 < 0 then (some (0 : Int32)) else ((if (16 : Int32) ≤ x0 then (some (0 : Int32)) else (some (1 : Int32)))))
set_option maxRecDepth 20000 in
theorem e_X9_isMark {G : GG} {h : MH} {x0 : Int32} {r : Int32} (hf : f_X9_isMark h x0 = some r) : Ev G 0 M_X9_isMark 0 (ent M_X9_isMark [.int x0]) [] h (some (.int r)) h := by
  unfold f_X9_isMark at hf
  show Ev G 0 M_X9_isMark 0 [some (.int x0)] [] h (some (.int r)) h
  refine ev_iload_n i_X9_isMark_0 rfl ?_
  refine ev_if_lt (tg := 14) i_X9_isMark_1 (by decide) (fun c1 => ?_) (fun c1 => ?_)
  · rw [if_pos c1] at hf
    refine ev_iconst i_X9_isMark_14 lt_i_0 ?_
    cases hf
    exact ev_zret i_X9_isMark_15 rfl (by decide)
  · rw [if_neg c1] at hf
    refine ev_iload_n i_X9_isMark_4 rfl ?_
    refine ev_bipush i_X9_isMark_5 lt_b_16 ?_
    refine ev_icmp_ge (tg := 14) i_X9_isMark_7 (by decide) (fun c7 => ?_) (fun c7 => ?_)
    · rw [if_pos c7] at hf
      refine ev_iconst i_X9_isMark_14 lt_i_0 ?_
      cases hf
      exact ev_zret i_X9_isMark_15 rfl (by decide)
    · rw [if_neg c7] at hf
      refine ev_iconst i_X9_isMark_10 lt_i_1 ?_
      refine ev_goto (tg := 15) i_X9_isMark_11 (by decide) ?_
      cases hf
      exact ev_zret i_X9_isMark_15 rfl (by decide)
def f_X1_isSeparated_L2 (k30 : Option Int32) (h : MH) (a0 : Nat) (x1 : Int32) (x2 : Int32) : Nat → Int32 → Option Int32
  | 0, _ => none
  | n + 1, x3 => (if (14 : Int32) ≤ x3 then (k30 ) else ((gR h a0 1 2).bind fun b9 => (aR h b9 x3).bind fun b13 => (f_X5_separates h b13 x1 x2).bind fun v16 => (if v16 = 0 then (f_X1_isSeparated_L2 k30 h a0 x1 x2 n (x3 + (1 : Int32))) else (some (1 : Int32)))))
set_option maxRecDepth 20000 in
theorem l_X1_isSeparated_2 {G : GG} {k30 : Option Int32} {h : MH} {a0 : Nat} {x1 : Int32} {x2 : Int32} (hk30 : ∀  (r : Int32), k30  = some r → Ev G 2 M_X1_isSeparated 30 [none, none, none, none] [] h (some (.int r)) h) : ∀ (n : Nat) (x3 : Int32) (r : Int32), f_X1_isSeparated_L2 k30 h a0 x1 x2 n x3 = some r → Ev G 2 M_X1_isSeparated 2 [some (.ref a0), some (.int x1), some (.int x2), some (.int x3)] [] h (some (.int r)) h := by
  intro n
  induction n with
  | zero => intro x3 r hf; rw [f_X1_isSeparated_L2] at hf; cases hf
  | succ n ih =>
    intro x3 r hf
    rw [f_X1_isSeparated_L2] at hf
    refine ev_iload_n i_X1_isSeparated_2 rfl ?_
    refine ev_bipush i_X1_isSeparated_3 lt_b_14 ?_
    refine ev_icmp_ge (tg := 30) i_X1_isSeparated_5 (by decide) (fun c5 => ?_) (fun c5 => ?_)
    · rw [if_pos c5] at hf
      refine ev_sub (lc2 := [none, none, none, none]) ⟨Or.inl rfl, Or.inl rfl, Or.inl rfl, Or.inl rfl, trivial⟩ ?_
      exact hk30  _ hf
    · rw [if_neg c5] at hf
      refine ev_aload_n i_X1_isSeparated_8 rfl ?_
      obtain ⟨b9, e9, hf⟩ := ob hf
      refine ev_gR i_X1_isSeparated_9 fl_X1_20 rfl e9 ?_
      refine ev_iload_n i_X1_isSeparated_12 rfl ?_
      obtain ⟨b13, e13, hf⟩ := ob hf
      refine ev_aR i_X1_isSeparated_13 e13 ?_
      refine ev_iload_n i_X1_isSeparated_14 rfl ?_
      refine ev_iload_n i_X1_isSeparated_15 rfl ?_
      obtain ⟨v16, e16, hf⟩ := ob hf
      refine ev_cV_i i_X1_isSeparated_16 lk_X1_isSeparated_86 [.int x1, .int x2] rfl rfl (by decide) (gK_of e16).1.1 (gK_of e16).1.2 (Nat.le_of_ble_eq_true rfl) (by decide) (e_X5_separates e16) ?_
      refine ev_if_eq (tg := 24) i_X1_isSeparated_19 (by decide) (fun c19 => ?_) (fun c19 => ?_)
      · rw [if_pos c19] at hf
        refine ev_iinc (y := (x3 + (1 : Int32))) i_X1_isSeparated_24 rfl rfl (by decide) ?_
        refine ev_goto (tg := 2) i_X1_isSeparated_27 (by decide) ?_
        exact ih (x3 + (1 : Int32)) _ hf
      · rw [if_neg c19] at hf
        refine ev_iconst i_X1_isSeparated_22 lt_i_1 ?_
        cases hf
        exact ev_zret i_X1_isSeparated_23 rfl (by decide)
def f_X1_isSeparated (h : MH) (a0 : Nat) (x1 : Int32) (x2 : Int32) : Option Int32 := gK h a0 1 (f_X1_isSeparated_L2 (some (0 : Int32)) h a0 x1 x2 fuel (0 : Int32))
set_option maxRecDepth 20000 in
theorem e_X1_isSeparated {G : GG} {h : MH} {a0 : Nat} {x1 : Int32} {x2 : Int32} {r : Int32} (hf : f_X1_isSeparated h a0 x1 x2 = some r) : Ev G 2 M_X1_isSeparated 0 (ent M_X1_isSeparated [.ref a0, .int x1, .int x2]) [] h (some (.int r)) h := by
  unfold f_X1_isSeparated at hf
  show Ev G 2 M_X1_isSeparated 0 [some (.ref a0), some (.int x1), some (.int x2), none] [] h (some (.int r)) h
  obtain ⟨-, hf⟩ := gK_of hf
  refine ev_iconst i_X1_isSeparated_0 lt_i_0 ?_
  refine ev_istore_n i_X1_isSeparated_1 (by decide) ?_
  exact l_X1_isSeparated_2 (fun  r hf => by
    refine ev_iconst i_X1_isSeparated_30 lt_i_0 ?_
    cases hf
    exact ev_zret i_X1_isSeparated_31 rfl (by decide)) fuel (0 : Int32) _ hf
def f_X1_leastAlike_L2 (k24 : Option Int32) (h : MH) (a0 : Nat) (x1 : Int32) : Nat → Int32 → Option Int32
  | 0, _ => none
  | n + 1, x2 => (if x1 ≤ x2 then (k24 ) else ((f_X1_isSeparated h a0 x1 x2).bind fun v10 => (if v10 = 0 then (some x2) else (f_X1_leastAlike_L2 k24 h a0 x1 n (x2 + (1 : Int32))))))
set_option maxRecDepth 20000 in
theorem l_X1_leastAlike_2 {G : GG} {k24 : Option Int32} {h : MH} {a0 : Nat} {x1 : Int32} (hk24 : ∀  (r : Int32), k24  = some r → Ev G 3 M_X1_leastAlike 24 [none, some (.int x1), none] [] h (some (.int r)) h) : ∀ (n : Nat) (x2 : Int32) (r : Int32), f_X1_leastAlike_L2 k24 h a0 x1 n x2 = some r → Ev G 3 M_X1_leastAlike 2 [some (.ref a0), some (.int x1), some (.int x2)] [] h (some (.int r)) h := by
  intro n
  induction n with
  | zero => intro x2 r hf; rw [f_X1_leastAlike_L2] at hf; cases hf
  | succ n ih =>
    intro x2 r hf
    rw [f_X1_leastAlike_L2] at hf
    refine ev_iload_n i_X1_leastAlike_2 rfl ?_
    refine ev_iload_n i_X1_leastAlike_3 rfl ?_
    refine ev_icmp_ge (tg := 24) i_X1_leastAlike_4 (by decide) (fun c4 => ?_) (fun c4 => ?_)
    · rw [if_pos c4] at hf
      refine ev_sub (lc2 := [none, some (.int x1), none]) ⟨Or.inl rfl, Or.inr rfl, Or.inl rfl, trivial⟩ ?_
      exact hk24  _ hf
    · rw [if_neg c4] at hf
      refine ev_aload_n i_X1_leastAlike_7 rfl ?_
      refine ev_iload_n i_X1_leastAlike_8 rfl ?_
      refine ev_iload_n i_X1_leastAlike_9 rfl ?_
      obtain ⟨v10, e10, hf⟩ := ob hf
      refine ev_cV_i i_X1_leastAlike_10 lk_X1_leastAlike_83 [.int x1, .int x2] rfl rfl (by decide) (gK_of e10).1.1 (gK_of e10).1.2 (Nat.le_of_ble_eq_true rfl) (by decide) (e_X1_isSeparated e10) ?_
      refine ev_if_ne (tg := 18) i_X1_leastAlike_13 (by decide) (fun c13 => ?_) (fun c13 => ?_)
      · rw [if_neg c13] at hf
        refine ev_iinc (y := (x2 + (1 : Int32))) i_X1_leastAlike_18 rfl rfl (by decide) ?_
        refine ev_goto (tg := 2) i_X1_leastAlike_21 (by decide) ?_
        exact ih (x2 + (1 : Int32)) _ hf
      · rw [if_pos c13] at hf
        refine ev_iload_n i_X1_leastAlike_16 rfl ?_
        cases hf
        exact ev_iiret i_X1_leastAlike_17 rfl
def f_X1_leastAlike (h : MH) (a0 : Nat) (x1 : Int32) : Option Int32 := gK h a0 1 (f_X1_leastAlike_L2 (some x1) h a0 x1 fuel (0 : Int32))
set_option maxRecDepth 20000 in
theorem e_X1_leastAlike {G : GG} {h : MH} {a0 : Nat} {x1 : Int32} {r : Int32} (hf : f_X1_leastAlike h a0 x1 = some r) : Ev G 3 M_X1_leastAlike 0 (ent M_X1_leastAlike [.ref a0, .int x1]) [] h (some (.int r)) h := by
  unfold f_X1_leastAlike at hf
  show Ev G 3 M_X1_leastAlike 0 [some (.ref a0), some (.int x1), none] [] h (some (.int r)) h
  obtain ⟨-, hf⟩ := gK_of hf
  refine ev_iconst i_X1_leastAlike_0 lt_i_0 ?_
  refine ev_istore_n i_X1_leastAlike_1 (by decide) ?_
  exact l_X1_leastAlike_2 (fun  r hf => by
    refine ev_iload_n i_X1_leastAlike_24 rfl ?_
    cases hf
    exact ev_iiret i_X1_leastAlike_25 rfl) fuel (0 : Int32) _ hf
def f_X1_findClasses_L15 (k73 : MH → Option MH) (a0 : Nat) : Nat → MH → Int32 → Option MH
  | 0, _, _ => none
  | n + 1, h, x1 => (if (16 : Int32) ≤ x1 then (k73 h) else ((f_X1_leastAlike h a0 x1).bind fun v23 => (if v23 = x1 then ((gR h a0 1 3).bind fun b33 => (gI h a0 1 5).bind fun v38 => (sI h b33 x1 v38).bind fun h41 => (gI h41 a0 1 5).bind fun v44 => (pI h41 a0 1 5 (v44 + (1 : Int32))).bind fun h49 => f_X1_findClasses_L15 k73 a0 n h49 (x1 + (1 : Int32))) else ((gR h a0 1 3).bind fun b56 => (gR h a0 1 3).bind fun b61 => (aI h b61 v23).bind fun v65 => (sI h b56 x1 v65).bind fun h66 => f_X1_findClasses_L15 k73 a0 n h66 (x1 + (1 : Int32))))))
set_option maxRecDepth 20000 in
theorem l_X1_findClasses_15 {G : GG} {k73 : MH → Option MH} {a0 : Nat} (hk73 : ∀ (hz : MH) (r : MH), k73 hz = some r → Ev G 4 M_X1_findClasses 73 [some (.ref a0), none, none] [] hz none r) : ∀ (n : Nat) (h : MH) (x1 : Int32) (r : MH), f_X1_findClasses_L15 k73 a0 n h x1 = some r → Ev G 4 M_X1_findClasses 15 [some (.ref a0), some (.int x1), none] [] h none r := by
  intro n
  induction n with
  | zero => intro h x1 r hf; rw [f_X1_findClasses_L15] at hf; cases hf
  | succ n ih =>
    intro h x1 r hf
    rw [f_X1_findClasses_L15] at hf
    refine ev_iload_n i_X1_findClasses_15 rfl ?_
    refine ev_bipush i_X1_findClasses_16 lt_b_16 ?_
    refine ev_icmp_ge (tg := 73) i_X1_findClasses_18 (by decide) (fun c18 => ?_) (fun c18 => ?_)
    · rw [if_pos c18] at hf
      refine ev_sub (lc2 := [some (.ref a0), none, none]) ⟨Or.inr rfl, Or.inl rfl, Or.inr rfl, trivial⟩ ?_
      exact hk73 h _ hf
    · rw [if_neg c18] at hf
      refine ev_aload_n i_X1_findClasses_21 rfl ?_
      refine ev_iload_n i_X1_findClasses_22 rfl ?_
      obtain ⟨v23, e23, hf⟩ := ob hf
      refine ev_cV_i i_X1_findClasses_23 lk_X1_findClasses_79 [.int x1] rfl rfl (by decide) (gK_of e23).1.1 (gK_of e23).1.2 (Nat.le_of_ble_eq_true rfl) (by decide) (e_X1_leastAlike e23) ?_
      refine ev_istore_n i_X1_findClasses_26 (by decide) ?_
      refine ev_iload_n i_X1_findClasses_27 rfl ?_
      refine ev_iload_n i_X1_findClasses_28 rfl ?_
      refine ev_icmp_ne (tg := 55) i_X1_findClasses_29 (by decide) (fun c29 => ?_) (fun c29 => ?_)
      · rw [if_neg c29] at hf
        refine ev_aload_n i_X1_findClasses_55 rfl ?_
        obtain ⟨b56, e56, hf⟩ := ob hf
        refine ev_gR i_X1_findClasses_56 fl_X1_24 rfl e56 ?_
        refine ev_iload_n i_X1_findClasses_59 rfl ?_
        refine ev_aload_n i_X1_findClasses_60 rfl ?_
        obtain ⟨b61, e61, hf⟩ := ob hf
        refine ev_gR i_X1_findClasses_61 fl_X1_24 rfl e61 ?_
        refine ev_iload_n i_X1_findClasses_64 rfl ?_
        obtain ⟨v65, e65, hf⟩ := ob hf
        refine ev_aI i_X1_findClasses_65 e65 ?_
        obtain ⟨h66, e66, hf⟩ := ob hf
        refine ev_sI i_X1_findClasses_66 e66 ?_
        refine ev_iinc (y := (x1 + (1 : Int32))) i_X1_findClasses_67 rfl rfl (by decide) ?_
        refine ev_goto (tg := 15) i_X1_findClasses_70 (by decide) ?_
        refine ev_sub (lc2 := [some (.ref a0), some (.int (x1 + (1 : Int32))), none]) ⟨Or.inr rfl, Or.inr rfl, Or.inl rfl, trivial⟩ ?_
        exact ih h66 (x1 + (1 : Int32)) _ hf
      · rw [if_pos c29] at hf
        refine ev_aload_n i_X1_findClasses_32 rfl ?_
        obtain ⟨b33, e33, hf⟩ := ob hf
        refine ev_gR i_X1_findClasses_33 fl_X1_24 rfl e33 ?_
        refine ev_iload_n i_X1_findClasses_36 rfl ?_
        refine ev_aload_n i_X1_findClasses_37 rfl ?_
        obtain ⟨v38, e38, hf⟩ := ob hf
        refine ev_gI i_X1_findClasses_38 fl_X1_76 rfl e38 ?_
        obtain ⟨h41, e41, hf⟩ := ob hf
        refine ev_sI i_X1_findClasses_41 e41 ?_
        refine ev_aload_n i_X1_findClasses_42 rfl ?_
        refine ev_dup i_X1_findClasses_43 ?_
        obtain ⟨v44, e44, hf⟩ := ob hf
        refine ev_gI i_X1_findClasses_44 fl_X1_76 rfl e44 ?_
        refine ev_iconst i_X1_findClasses_47 lt_i_1 ?_
        refine ev_iadd i_X1_findClasses_48 ?_
        obtain ⟨h49, e49, hf⟩ := ob hf
        refine ev_pI i_X1_findClasses_49 fp_X1_findClasses_76 rfl e49 ?_
        refine ev_goto (tg := 67) i_X1_findClasses_52 (by decide) ?_
        refine ev_iinc (y := (x1 + (1 : Int32))) i_X1_findClasses_67 rfl rfl (by decide) ?_
        refine ev_goto (tg := 15) i_X1_findClasses_70 (by decide) ?_
        refine ev_sub (lc2 := [some (.ref a0), some (.int (x1 + (1 : Int32))), none]) ⟨Or.inr rfl, Or.inr rfl, Or.inl rfl, trivial⟩ ?_
        exact ih h49 (x1 + (1 : Int32)) _ hf
def f_X1_findClasses (h : MH) (a0 : Nat) : Option MH := gK h a0 1 ((gI h a0 1 4).bind fun v1 => (if v1 = 0 then ((pI h a0 1 5 (0 : Int32)).bind fun h10 => f_X1_findClasses_L15 (fun he73 => (pZ he73 a0 1 4 (1 : Int32)).bind fun h75 => some h75) a0 fuel h10 (0 : Int32)) else (some h)))
set_option maxRecDepth 20000 in
theorem e_X1_findClasses {G : GG} {h : MH} {a0 : Nat} {r : MH} (hf : f_X1_findClasses h a0 = some r) : Ev G 4 M_X1_findClasses 0 (ent M_X1_findClasses [.ref a0]) [] h none r := by
  unfold f_X1_findClasses at hf
  show Ev G 4 M_X1_findClasses 0 [some (.ref a0), none, none] [] h none r
  obtain ⟨-, hf⟩ := gK_of hf
  refine ev_aload_n i_X1_findClasses_0 rfl ?_
  obtain ⟨v1, e1, hf⟩ := ob hf
  refine ev_gI i_X1_findClasses_1 fl_X1_47 rfl e1 ?_
  refine ev_if_eq (tg := 8) i_X1_findClasses_4 (by decide) (fun c4 => ?_) (fun c4 => ?_)
  · rw [if_pos c4] at hf
    refine ev_aload_n i_X1_findClasses_8 rfl ?_
    refine ev_iconst i_X1_findClasses_9 lt_i_0 ?_
    obtain ⟨h10, e10, hf⟩ := ob hf
    refine ev_pI i_X1_findClasses_10 fp_X1_findClasses_76 rfl e10 ?_
    refine ev_iconst i_X1_findClasses_13 lt_i_0 ?_
    refine ev_istore_n i_X1_findClasses_14 (by decide) ?_
    exact l_X1_findClasses_15 (fun he73 r hf => by
      refine ev_aload_n i_X1_findClasses_73 rfl ?_
      refine ev_iconst i_X1_findClasses_74 lt_i_1 ?_
      obtain ⟨h75, e75, hf⟩ := ob hf
      refine ev_pZ i_X1_findClasses_75 fp_X1_findClasses_47 rfl e75 ?_
      cases hf
      exact ev_vret i_X1_findClasses_78 rfl) fuel h10 (0 : Int32) _ hf
  · rw [if_neg c4] at hf
    cases hf
    exact ev_vret i_X1_findClasses_7 rfl
def f_X1_classOf (h : MH) (a0 : Nat) (x1 : Int32) : Option (Int32 × MH) := gK h a0 1 ((f_X9_isMark h x1).bind fun v1 => (if v1 = 0 then (some ((-1 : Int32), h)) else ((f_X1_findClasses h a0).bind fun h10 => (gR h10 a0 1 3).bind fun b14 => (aI h10 b14 x1).bind fun v18 => some (v18, h10))))
set_option maxRecDepth 20000 in
theorem e_X1_classOf {G : GG} {h : MH} {a0 : Nat} {x1 : Int32} {r : (Int32 × MH)} (hf : f_X1_classOf h a0 x1 = some r) : Ev G 5 M_X1_classOf 0 (ent M_X1_classOf [.ref a0, .int x1]) [] h (some (.int r.1)) r.2 := by
  unfold f_X1_classOf at hf
  show Ev G 5 M_X1_classOf 0 [some (.ref a0), some (.int x1)] [] h (some (.int r.1)) r.2
  obtain ⟨-, hf⟩ := gK_of hf
  refine ev_iload_n i_X1_classOf_0 rfl ?_
  obtain ⟨v1, e1, hf⟩ := ob hf
  refine ev_cS_i i_X1_classOf_1 lk_X1_classOf_70 [.int x1] rfl rfl (by decide) (Nat.le_of_ble_eq_true rfl) (by decide) (e_X9_isMark e1) ?_
  refine ev_if_ne (tg := 9) i_X1_classOf_4 (by decide) (fun c4 => ?_) (fun c4 => ?_)
  · rw [if_neg c4] at hf
    refine ev_aload_n i_X1_classOf_9 rfl ?_
    obtain ⟨h10, e10, hf⟩ := ob hf
    refine ev_cV_v i_X1_classOf_10 lk_X1_classOf_73 [] rfl rfl (by decide) (gK_of e10).1.1 (gK_of e10).1.2 (Nat.le_of_ble_eq_true rfl) (by decide) (e_X1_findClasses e10) ?_
    refine ev_aload_n i_X1_classOf_13 rfl ?_
    obtain ⟨b14, e14, hf⟩ := ob hf
    refine ev_gR i_X1_classOf_14 fl_X1_24 rfl e14 ?_
    refine ev_iload_n i_X1_classOf_17 rfl ?_
    obtain ⟨v18, e18, hf⟩ := ob hf
    refine ev_aI i_X1_classOf_18 e18 ?_
    cases hf
    exact ev_iiret i_X1_classOf_19 rfl
  · rw [if_pos c4] at hf
    refine ev_iconst i_X1_classOf_7 lt_i_m1 ?_
    cases hf
    exact ev_iiret i_X1_classOf_8 rfl
def f_X1_classCount (h : MH) (a0 : Nat) : Option (Int32 × MH) := gK h a0 1 ((f_X1_findClasses h a0).bind fun h1 => (gI h1 a0 1 5).bind fun v5 => some (v5, h1))
set_option maxRecDepth 20000 in
theorem e_X1_classCount {G : GG} {h : MH} {a0 : Nat} {r : (Int32 × MH)} (hf : f_X1_classCount h a0 = some r) : Ev G 5 M_X1_classCount 0 (ent M_X1_classCount [.ref a0]) [] h (some (.int r.1)) r.2 := by
  unfold f_X1_classCount at hf
  show Ev G 5 M_X1_classCount 0 [some (.ref a0)] [] h (some (.int r.1)) r.2
  obtain ⟨-, hf⟩ := gK_of hf
  refine ev_aload_n i_X1_classCount_0 rfl ?_
  obtain ⟨h1, e1, hf⟩ := ob hf
  refine ev_cV_v i_X1_classCount_1 lk_X1_classCount_73 [] rfl rfl (by decide) (gK_of e1).1.1 (gK_of e1).1.2 (Nat.le_of_ble_eq_true rfl) (by decide) (e_X1_findClasses e1) ?_
  refine ev_aload_n i_X1_classCount_4 rfl ?_
  obtain ⟨v5, e5, hf⟩ := ob hf
  refine ev_gI i_X1_classCount_5 fl_X1_76 rfl e5 ?_
  cases hf
  exact ev_iiret i_X1_classCount_8 rfl

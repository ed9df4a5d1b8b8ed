/-! ===== methods as functions ===== -/
def f_X0_init_L84 (k103 : MH → Option MH) (a0 : Nat) (a2 : Nat) : Nat → MH → Int32 → Option MH
  | 0, _, _ => none
  | n + 1, h, x3 => (if (10 : Int32) ≤ x3 then (k103 h) else ((gR h a0 0 1).bind fun b91 => (sR h b91 x3 a2).bind fun h96 => f_X0_init_L84 k103 a0 a2 n h96 (x3 + (1 : Int32))))
set_option maxRecDepth 20000 in
theorem l_X0_init_84 {G : GG} {k103 : MH → Option MH} {a0 : Nat} {a2 : Nat} (hk103 : ∀ (hz : MH) (r : MH), k103 hz = some r → Ev G 2 M_X0_init 103 [none, none, none, none] [] hz none r) : ∀ (n : Nat) (h : MH) (x3 : Int32) (r : MH), f_X0_init_L84 k103 a0 a2 n h x3 = some r → Ev G 2 M_X0_init 84 [some (.ref a0), none, some (.ref a2), some (.int x3)] [] h none r := by
  intro n
  induction n with
  | zero => intro h x3 r hf; rw [f_X0_init_L84] at hf; cases hf
  | succ n ih =>
    intro h x3 r hf
    rw [f_X0_init_L84] at hf
    refine ev_iload_n i_X0_init_84 rfl ?_
    refine ev_bipush i_X0_init_85 lt_b_10 ?_
    refine ev_icmp_ge (tg := 103) i_X0_init_87 (by decide) (fun c87 => ?_) (fun c87 => ?_)
    · rw [if_pos c87] at hf
      refine ev_sub (lc2 := [none, none, none, none]) ⟨Or.inl rfl, Or.inr rfl, Or.inl rfl, Or.inl rfl, trivial⟩ ?_
      exact hk103 h _ hf
    · rw [if_neg c87] at hf
      refine ev_aload_n i_X0_init_90 rfl ?_
      obtain ⟨b91, e91, hf⟩ := ob hf
      refine ev_gR i_X0_init_91 fl_X0_11 rfl e91 ?_
      refine ev_iload_n i_X0_init_94 rfl ?_
      refine ev_aload_n i_X0_init_95 rfl ?_
      obtain ⟨h96, e96, hf⟩ := ob hf
      refine ev_sR i_X0_init_96 e96 ?_
      refine ev_iinc (y := (x3 + (1 : Int32))) i_X0_init_97 rfl rfl (by decide) ?_
      refine ev_goto (tg := 84) i_X0_init_100 (by decide) ?_
      exact ih h96 (x3 + (1 : Int32)) _ hf
def f_X0_init (h : MH) (a0 : Nat) (a1 : Nat) : Option MH := (pR (mm_na h 15 10) a0 0 1 (mm_N h)).bind fun h10 => (pR (mm_na h10 12 10) a0 0 2 (mm_N h10)).bind fun h18 => (pR (mm_na h18 12 128) a0 0 3 (mm_N h18)).bind fun h27 => (f_X8_init (mm_no h27 8) (mm_N h27)).bind fun h35 => (pR h35 a0 0 4 (mm_N h27)).bind fun h38 => (f_X8_init (mm_no h38 8) (mm_N h38)).bind fun h46 => (pR h46 a0 0 5 (mm_N h38)).bind fun h49 => (f_X8_init (mm_no h49 8) (mm_N h49)).bind fun h57 => (pR h57 a0 0 6 (mm_N h49)).bind fun h60 => (pR h60 a0 0 0 a1).bind fun h65 => (f_X7_init (mm_no h65 7) (mm_N h65) (1 : Int32) (0 : Int32) (0 : Int32) (0 : Int32) (0 : Int32) (0 : Int32)).bind fun h78 => f_X0_init_L84 (fun he103 => some he103) a0 (mm_N h65) fuel h78 (0 : Int32)
set_option maxRecDepth 20000 in
theorem e_X0_init {G : GG} {h : MH} {a0 : Nat} {a1 : Nat} {r : MH} (hf : f_X0_init h a0 a1 = some r) : Ev G 2 M_X0_init 0 (ent M_X0_init [.ref a0, .ref a1]) [] h none r := by
  unfold f_X0_init at hf
  show Ev G 2 M_X0_init 0 [some (.ref a0), some (.ref a1), none, none] [] h none r
  refine ev_aload_n i_X0_init_0 rfl ?_
  refine ev_objI i_X0_init_1 ml_X0_3 go_1 go_2 (Nat.le_of_ble_eq_true rfl) (by decide) ?_
  refine ev_aload_n i_X0_init_4 rfl ?_
  refine ev_bipush i_X0_init_5 lt_b_10 ?_
  refine ev_nAR (kd := 15) i_X0_init_7 (Or.inr (Or.inr ⟨rfl, rfl⟩)) cw_X0_9 gao_X7 (by decide) (by decide : _ = 10) (by decide) ?_
  obtain ⟨h10, e10, hf⟩ := ob hf
  refine ev_pR i_X0_init_10 fp_X0_init_11 rfl e10 ?_
  refine ev_aload_n i_X0_init_13 rfl ?_
  refine ev_bipush i_X0_init_14 lt_b_10 ?_
  refine ev_nA (kd := 12) i_X0_init_16 (Or.inr ⟨rfl, rfl⟩) ga_z (by decide) (by decide : _ = 10) (by decide) ?_
  obtain ⟨h18, e18, hf⟩ := ob hf
  refine ev_pR i_X0_init_18 fp_X0_init_17 rfl e18 ?_
  refine ev_aload_n i_X0_init_21 rfl ?_
  refine ev_sipush i_X0_init_22 lt_s_128 ?_
  refine ev_nA (kd := 12) i_X0_init_25 (Or.inr ⟨rfl, rfl⟩) ga_z (by decide) (by decide : _ = 128) (by decide) ?_
  obtain ⟨h27, e27, hf⟩ := ob hf
  refine ev_pR i_X0_init_27 fp_X0_init_21 rfl e27 ?_
  refine ev_aload_n i_X0_init_30 rfl ?_
  refine ev_new i_X0_init_31 nc_X0_24 ?_
  refine ev_dup i_X0_init_34 ?_
  obtain ⟨h35, e35, hf⟩ := ob hf
  refine ev_cI_v i_X0_init_35 lk_X0_init_26 [] rfl rfl (by decide) (Nat.le_of_ble_eq_true rfl) (by decide) (e_X8_init e35) ?_
  obtain ⟨h38, e38, hf⟩ := ob hf
  refine ev_pR i_X0_init_38 fp_X0_init_27 rfl e38 ?_
  refine ev_aload_n i_X0_init_41 rfl ?_
  refine ev_new i_X0_init_42 nc_X0_24 ?_
  refine ev_dup i_X0_init_45 ?_
  obtain ⟨h46, e46, hf⟩ := ob hf
  refine ev_cI_v i_X0_init_46 lk_X0_init_26 [] rfl rfl (by decide) (Nat.le_of_ble_eq_true rfl) (by decide) (e_X8_init e46) ?_
  obtain ⟨h49, e49, hf⟩ := ob hf
  refine ev_pR i_X0_init_49 fp_X0_init_31 rfl e49 ?_
  refine ev_aload_n i_X0_init_52 rfl ?_
  refine ev_new i_X0_init_53 nc_X0_24 ?_
  refine ev_dup i_X0_init_56 ?_
  obtain ⟨h57, e57, hf⟩ := ob hf
  refine ev_cI_v i_X0_init_57 lk_X0_init_26 [] rfl rfl (by decide) (Nat.le_of_ble_eq_true rfl) (by decide) (e_X8_init e57) ?_
  obtain ⟨h60, e60, hf⟩ := ob hf
  refine ev_pR i_X0_init_60 fp_X0_init_34 rfl e60 ?_
  refine ev_aload_n i_X0_init_63 rfl ?_
  refine ev_aload_n i_X0_init_64 rfl ?_
  obtain ⟨h65, e65, hf⟩ := ob hf
  refine ev_pR i_X0_init_65 fp_X0_init_37 rfl e65 ?_
  refine ev_new i_X0_init_68 nc_X0_9 ?_
  refine ev_dup i_X0_init_71 ?_
  refine ev_iconst i_X0_init_72 lt_i_1 ?_
  refine ev_iconst i_X0_init_73 lt_i_0 ?_
  refine ev_iconst i_X0_init_74 lt_i_0 ?_
  refine ev_iconst i_X0_init_75 lt_i_0 ?_
  refine ev_iconst i_X0_init_76 lt_i_0 ?_
  refine ev_iconst i_X0_init_77 lt_i_0 ?_
  obtain ⟨h78, e78, hf⟩ := ob hf
  refine ev_cI_v i_X0_init_78 lk_X0_init_41 [.int (1 : Int32), .int (0 : Int32), .int (0 : Int32), .int (0 : Int32), .int (0 : Int32), .int (0 : Int32)] rfl rfl (by decide) (Nat.le_of_ble_eq_true rfl) (by decide) (e_X7_init e78) ?_
  refine ev_astore_n i_X0_init_81 (by decide) ?_
  refine ev_iconst i_X0_init_82 lt_i_0 ?_
  refine ev_istore_n i_X0_init_83 (by decide) ?_
  refine ev_sub (lc2 := [some (.ref a0), none, some (.ref (mm_N h65)), some (.int (0 : Int32))]) ⟨Or.inr rfl, Or.inl rfl, Or.inr rfl, Or.inr rfl, trivial⟩ ?_
  exact l_X0_init_84 (fun he103 r hf => by
    cases hf
    exact ev_vret i_X0_init_103 rfl) fuel h78 (0 : Int32) _ hf
def f_X0_forget (h : MH) (a0 : Nat) : Option MH := gK h a0 0 ((pZ h a0 0 8 (0 : Int32)).bind fun h2 => (pZ h2 a0 0 9 (0 : Int32)).bind fun h7 => some h7)
set_option maxRecDepth 20000 in
theorem e_X0_forget {G : GG} {h : MH} {a0 : Nat} {r : MH} (hf : f_X0_forget h a0 = some r) : Ev G 0 M_X0_forget 0 (ent M_X0_forget [.ref a0]) [] h none r := by
  unfold f_X0_forget at hf
  show Ev G 0 M_X0_forget 0 [some (.ref a0)] [] h none r
  obtain ⟨-, hf⟩ := gK_of hf
  refine ev_aload_n i_X0_forget_0 rfl ?_
  refine ev_iconst i_X0_forget_1 lt_i_0 ?_
  obtain ⟨h2, e2, hf⟩ := ob hf
  refine ev_pZ i_X0_forget_2 fp_X0_forget_44 rfl e2 ?_
  refine ev_aload_n i_X0_forget_5 rfl ?_
  refine ev_iconst i_X0_forget_6 lt_i_0 ?_
  obtain ⟨h7, e7, hf⟩ := ob hf
  refine ev_pZ i_X0_forget_7 fp_X0_forget_48 rfl e7 ?_
  cases hf
  exact ev_vret i_X0_forget_10 rfl
def f_X0_dropWants (h : MH) (a0 : Nat) : Option MH := gK h a0 0 ((pI h a0 0 7 (0 : Int32)).bind fun h2 => some h2)
set_option maxRecDepth 20000 in
theorem e_X0_dropWants {G : GG} {h : MH} {a0 : Nat} {r : MH} (hf : f_X0_dropWants h a0 = some r) : Ev G 0 M_X0_dropWants 0 (ent M_X0_dropWants [.ref a0]) [] h none r := by
  unfold f_X0_dropWants at hf
  show Ev G 0 M_X0_dropWants 0 [some (.ref a0)] [] h none r
  obtain ⟨-, hf⟩ := gK_of hf
  refine ev_aload_n i_X0_dropWants_0 rfl ?_
  refine ev_iconst i_X0_dropWants_1 lt_i_0 ?_
  obtain ⟨h2, e2, hf⟩ := ob hf
  refine ev_pI i_X0_dropWants_2 fp_X0_dropWants_51 rfl e2 ?_
  cases hf
  exact ev_vret i_X0_dropWants_5 rfl
def f_X0_wantCount (h : MH) (a0 : Nat) : Option Int32 := gK h a0 0 ((gI h a0 0 7).bind fun v1 => some v1)
set_option maxRecDepth 20000 in
theorem e_X0_wantCount {G : GG} {h : MH} {a0 : Nat} {r : Int32} (hf : f_X0_wantCount h a0 = some r) : Ev G 0 M_X0_wantCount 0 (ent M_X0_wantCount [.ref a0]) [] h (some (.int r)) h := by
  unfold f_X0_wantCount at hf
  show Ev G 0 M_X0_wantCount 0 [some (.ref a0)] [] h (some (.int r)) h
  obtain ⟨-, hf⟩ := gK_of hf
  refine ev_aload_n i_X0_wantCount_0 rfl ?_
  obtain ⟨v1, e1, hf⟩ := ob hf
  refine ev_gI i_X0_wantCount_1 fl_X0_51 rfl e1 ?_
  cases hf
  exact ev_iiret i_X0_wantCount_4 rfl
def f_X0_hasWant (h : MH) (a0 : Nat) (x1 : Int32) : Option Int32 := gK h a0 0 ((if x1 < 0 then (some (0 : Int32)) else ((gI h a0 0 7).bind fun v6 => (if v6 ≤ x1 then (some (0 : Int32)) else (some (1 : Int32))))))
set_option maxRecDepth 20000 in
theorem e_X0_hasWant {G : GG} {h : MH} {a0 : Nat} {x1 : Int32} {r : Int32} (hf : f_X0_hasWant h a0 x1 = some r) : Ev G 0 M_X0_hasWant 0 (ent M_X0_hasWant [.ref a0, .int x1]) [] h (some (.int r)) h := by
  unfold f_X0_hasWant at hf
  show Ev G 0 M_X0_hasWant 0 [some (.ref a0), some (.int x1)] [] h (some (.int r)) h
  obtain ⟨-, hf⟩ := gK_of hf
  refine ev_iload_n i_X0_hasWant_0 rfl ?_
  refine ev_if_lt (tg := 16) i_X0_hasWant_1 (by decide) (fun c1 => ?_) (fun c1 => ?_)
  · rw [if_pos c1] at hf
    refine ev_iconst i_X0_hasWant_16 lt_i_0 ?_
    cases hf
    exact ev_zret i_X0_hasWant_17 rfl (by decide)
  · rw [if_neg c1] at hf
    refine ev_iload_n i_X0_hasWant_4 rfl ?_
    refine ev_aload_n i_X0_hasWant_5 rfl ?_
    obtain ⟨v6, e6, hf⟩ := ob hf
    refine ev_gI i_X0_hasWant_6 fl_X0_51 rfl e6 ?_
    refine ev_icmp_ge (tg := 16) i_X0_hasWant_9 (by decide) (fun c9 => ?_) (fun c9 => ?_)
    · rw [if_pos c9] at hf
      refine ev_iconst i_X0_hasWant_16 lt_i_0 ?_
      cases hf
      exact ev_zret i_X0_hasWant_17 rfl (by decide)
    · rw [if_neg c9] at hf
      refine ev_iconst i_X0_hasWant_12 lt_i_1 ?_
      refine ev_goto (tg := 17) i_X0_hasWant_13 (by decide) ?_
      cases hf
      exact ev_zret i_X0_hasWant_17 rfl (by decide)
def f_X0_addWant (h : MH) (a0 : Nat) (a1 : Nat) : Option MH := gK h a0 0 ((gI h a0 0 7).bind fun v1 => (if (10 : Int32) ≤ v1 then (some h) else ((gR h a0 0 1).bind fun b10 => (gI h a0 0 7).bind fun v14 => (sR h b10 v14 a1).bind fun h18 => (gI h18 a0 0 7).bind fun v21 => (pI h18 a0 0 7 (v21 + (1 : Int32))).bind fun h26 => some h26)))
set_option maxRecDepth 20000 in
theorem e_X0_addWant {G : GG} {h : MH} {a0 : Nat} {a1 : Nat} {r : MH} (hf : f_X0_addWant h a0 a1 = some r) : Ev G 0 M_X0_addWant 0 (ent M_X0_addWant [.ref a0, .ref a1]) [] h none r := by
  unfold f_X0_addWant at hf
  show Ev G 0 M_X0_addWant 0 [some (.ref a0), some (.ref a1)] [] h none r
  obtain ⟨-, hf⟩ := gK_of hf
  refine ev_aload_n i_X0_addWant_0 rfl ?_
  obtain ⟨v1, e1, hf⟩ := ob hf
  refine ev_gI i_X0_addWant_1 fl_X0_51 rfl e1 ?_
  refine ev_bipush i_X0_addWant_4 lt_b_10 ?_
  refine ev_icmp_ge (tg := 29) i_X0_addWant_6 (by decide) (fun c6 => ?_) (fun c6 => ?_)
  · rw [if_pos c6] at hf
    cases hf
    exact ev_vret i_X0_addWant_29 rfl
  · rw [if_neg c6] at hf
    refine ev_aload_n i_X0_addWant_9 rfl ?_
    obtain ⟨b10, e10, hf⟩ := ob hf
    refine ev_gR i_X0_addWant_10 fl_X0_11 rfl e10 ?_
    refine ev_aload_n i_X0_addWant_13 rfl ?_
    obtain ⟨v14, e14, hf⟩ := ob hf
    refine ev_gI i_X0_addWant_14 fl_X0_51 rfl e14 ?_
    refine ev_aload_n i_X0_addWant_17 rfl ?_
    obtain ⟨h18, e18, hf⟩ := ob hf
    refine ev_sR i_X0_addWant_18 e18 ?_
    refine ev_aload_n i_X0_addWant_19 rfl ?_
    refine ev_dup i_X0_addWant_20 ?_
    obtain ⟨v21, e21, hf⟩ := ob hf
    refine ev_gI i_X0_addWant_21 fl_X0_51 rfl e21 ?_
    refine ev_iconst i_X0_addWant_24 lt_i_1 ?_
    refine ev_iadd i_X0_addWant_25 ?_
    obtain ⟨h26, e26, hf⟩ := ob hf
    refine ev_pI i_X0_addWant_26 fp_X0_addWant_51 rfl e26 ?_
    cases hf
    exact ev_vret i_X0_addWant_29 rfl
def f_X0_removeWant_L11 (k41 : MH → Option MH) (a0 : Nat) : Nat → MH → Int32 → Option MH
  | 0, _, _ => none
  | n + 1, h, x2 => (gI h a0 0 7).bind fun v15 => (if v15 ≤ (x2 + (1 : Int32)) then (k41 h) else ((gR h a0 0 1).bind fun b22 => (gR h a0 0 1).bind fun b27 => (aR h b27 (x2 + (1 : Int32))).bind fun b33 => (sR h b22 x2 b33).bind fun h34 => f_X0_removeWant_L11 k41 a0 n h34 (x2 + (1 : Int32))))
set_option maxRecDepth 20000 in
theorem l_X0_removeWant_11 {G : GG} {k41 : MH → Option MH} {a0 : Nat} (hk41 : ∀ (hz : MH) (r : MH), k41 hz = some r → Ev G 1 M_X0_removeWant 41 [some (.ref a0), none, none] [] hz none r) : ∀ (n : Nat) (h : MH) (x2 : Int32) (r : MH), f_X0_removeWant_L11 k41 a0 n h x2 = some r → Ev G 1 M_X0_removeWant 11 [some (.ref a0), none, some (.int x2)] [] h none r := by
  intro n
  induction n with
  | zero => intro h x2 r hf; rw [f_X0_removeWant_L11] at hf; cases hf
  | succ n ih =>
    intro h x2 r hf
    rw [f_X0_removeWant_L11] at hf
    refine ev_iload_n i_X0_removeWant_11 rfl ?_
    refine ev_iconst i_X0_removeWant_12 lt_i_1 ?_
    refine ev_iadd i_X0_removeWant_13 ?_
    refine ev_aload_n i_X0_removeWant_14 rfl ?_
    obtain ⟨v15, e15, hf⟩ := ob hf
    refine ev_gI i_X0_removeWant_15 fl_X0_51 rfl e15 ?_
    refine ev_icmp_ge (tg := 41) i_X0_removeWant_18 (by decide) (fun c18 => ?_) (fun c18 => ?_)
    · rw [if_pos c18] at hf
      refine ev_sub (lc2 := [some (.ref a0), none, none]) ⟨Or.inr rfl, Or.inr rfl, Or.inl rfl, trivial⟩ ?_
      exact hk41 h _ hf
    · rw [if_neg c18] at hf
      refine ev_aload_n i_X0_removeWant_21 rfl ?_
      obtain ⟨b22, e22, hf⟩ := ob hf
      refine ev_gR i_X0_removeWant_22 fl_X0_11 rfl e22 ?_
      refine ev_iload_n i_X0_removeWant_25 rfl ?_
      refine ev_aload_n i_X0_removeWant_26 rfl ?_
      obtain ⟨b27, e27, hf⟩ := ob hf
      refine ev_gR i_X0_removeWant_27 fl_X0_11 rfl e27 ?_
      refine ev_iload_n i_X0_removeWant_30 rfl ?_
      refine ev_iconst i_X0_removeWant_31 lt_i_1 ?_
      refine ev_iadd i_X0_removeWant_32 ?_
      obtain ⟨b33, e33, hf⟩ := ob hf
      refine ev_aR i_X0_removeWant_33 e33 ?_
      obtain ⟨h34, e34, hf⟩ := ob hf
      refine ev_sR i_X0_removeWant_34 e34 ?_
      refine ev_iinc (y := (x2 + (1 : Int32))) i_X0_removeWant_35 rfl rfl (by decide) ?_
      refine ev_goto (tg := 11) i_X0_removeWant_38 (by decide) ?_
      exact ih h34 (x2 + (1 : Int32)) _ hf
def f_X0_removeWant (h : MH) (a0 : Nat) (x1 : Int32) : Option MH := gK h a0 0 ((f_X0_hasWant h a0 x1).bind fun v2 => (if v2 = 0 then (some h) else (f_X0_removeWant_L11 (fun he41 => (gI he41 a0 0 7).bind fun v43 => (pI he41 a0 0 7 (v43 - (1 : Int32))).bind fun h48 => some h48) a0 fuel h x1)))
set_option maxRecDepth 20000 in
theorem e_X0_removeWant {G : GG} {h : MH} {a0 : Nat} {x1 : Int32} {r : MH} (hf : f_X0_removeWant h a0 x1 = some r) : Ev G 1 M_X0_removeWant 0 (ent M_X0_removeWant [.ref a0, .int x1]) [] h none r := by
  unfold f_X0_removeWant at hf
  show Ev G 1 M_X0_removeWant 0 [some (.ref a0), some (.int x1), none] [] h none r
  obtain ⟨-, hf⟩ := gK_of hf
  refine ev_aload_n i_X0_removeWant_0 rfl ?_
  refine ev_iload_n i_X0_removeWant_1 rfl ?_
  obtain ⟨v2, e2, hf⟩ := ob hf
  refine ev_cV_i i_X0_removeWant_2 lk_X0_removeWant_55 [.int x1] rfl rfl (by decide) (gK_of e2).1.1 (gK_of e2).1.2 (Nat.le_of_ble_eq_true rfl) (by decide) (e_X0_hasWant e2) ?_
  refine ev_if_ne (tg := 9) i_X0_removeWant_5 (by decide) (fun c5 => ?_) (fun c5 => ?_)
  · rw [if_neg c5] at hf
    refine ev_iload_n i_X0_removeWant_9 rfl ?_
    refine ev_istore_n i_X0_removeWant_10 (by decide) ?_
    refine ev_sub (lc2 := [some (.ref a0), none, some (.int x1)]) ⟨Or.inr rfl, Or.inl rfl, Or.inr rfl, trivial⟩ ?_
    exact l_X0_removeWant_11 (fun he41 r hf => by
      refine ev_aload_n i_X0_removeWant_41 rfl ?_
      refine ev_dup i_X0_removeWant_42 ?_
      obtain ⟨v43, e43, hf⟩ := ob hf
      refine ev_gI i_X0_removeWant_43 fl_X0_51 rfl e43 ?_
      refine ev_iconst i_X0_removeWant_46 lt_i_1 ?_
      refine ev_isub i_X0_removeWant_47 ?_
      obtain ⟨h48, e48, hf⟩ := ob hf
      refine ev_pI i_X0_removeWant_48 fp_X0_removeWant_51 rfl e48 ?_
      cases hf
      exact ev_vret i_X0_removeWant_51 rfl) fuel h x1 _ hf
  · rw [if_pos c5] at hf
    cases hf
    exact ev_vret i_X0_removeWant_8 rfl
def f_X0_needsHost_L2 (k31 : Option Int32) (h : MH) (a0 : Nat) (x1 : Int32) : Nat → Int32 → Option Int32
  | 0, _ => none
  | n + 1, x2 => (gI h a0 0 7).bind fun v4 => (if v4 ≤ x2 then (k31 ) else ((gR h a0 0 1).bind fun b11 => (aR h b11 x2).bind fun b15 => (f_X7_needsHost h b15 x1).bind fun v17 => (if v17 = 0 then (f_X0_needsHost_L2 k31 h a0 x1 n (x2 + (1 : Int32))) else (some (1 : Int32)))))
set_option maxRecDepth 20000 in
theorem l_X0_needsHost_2 {G : GG} {k31 : Option Int32} {h : MH} {a0 : Nat} {x1 : Int32} (hk31 : ∀  (r : Int32), k31  = some r → Ev G 2 M_X0_needsHost 31 [none, none, none] [] h (some (.int r)) h) : ∀ (n : Nat) (x2 : Int32) (r : Int32), f_X0_needsHost_L2 k31 h a0 x1 n x2 = some r → Ev G 2 M_X0_needsHost 2 [some (.ref a0), some (.int x1), some (.int x2)] [] h (some (.int r)) h := by
  intro n
  induction n with
  | zero => intro x2 r hf; rw [f_X0_needsHost_L2] at hf; cases hf
  | succ n ih =>
    intro x2 r hf
    rw [f_X0_needsHost_L2] at hf
    refine ev_iload_n i_X0_needsHost_2 rfl ?_
    refine ev_aload_n i_X0_needsHost_3 rfl ?_
    obtain ⟨v4, e4, hf⟩ := ob hf
    refine ev_gI i_X0_needsHost_4 fl_X0_51 rfl e4 ?_
    refine ev_icmp_ge (tg := 31) i_X0_needsHost_7 (by decide) (fun c7 => ?_) (fun c7 => ?_)
    · rw [if_pos c7] at hf
      refine ev_sub (lc2 := [none, none, none]) ⟨Or.inl rfl, Or.inl rfl, Or.inl rfl, trivial⟩ ?_
      exact hk31  _ hf
    · rw [if_neg c7] at hf
      refine ev_aload_n i_X0_needsHost_10 rfl ?_
      obtain ⟨b11, e11, hf⟩ := ob hf
      refine ev_gR i_X0_needsHost_11 fl_X0_11 rfl e11 ?_
      refine ev_iload_n i_X0_needsHost_14 rfl ?_
      obtain ⟨b15, e15, hf⟩ := ob hf
      refine ev_aR i_X0_needsHost_15 e15 ?_
      refine ev_iload_n i_X0_needsHost_16 rfl ?_
      obtain ⟨v17, e17, hf⟩ := ob hf
      refine ev_cV_i i_X0_needsHost_17 lk_X0_needsHost_59 [.int x1] rfl rfl (by decide) (gK_of e17).1.1 (gK_of e17).1.2 (Nat.le_of_ble_eq_true rfl) (by decide) (e_X7_needsHost e17) ?_
      refine ev_if_eq (tg := 25) i_X0_needsHost_20 (by decide) (fun c20 => ?_) (fun c20 => ?_)
      · rw [if_pos c20] at hf
        refine ev_iinc (y := (x2 + (1 : Int32))) i_X0_needsHost_25 rfl rfl (by decide) ?_
        refine ev_goto (tg := 2) i_X0_needsHost_28 (by decide) ?_
        exact ih (x2 + (1 : Int32)) _ hf
      · rw [if_neg c20] at hf
        refine ev_iconst i_X0_needsHost_23 lt_i_1 ?_
        cases hf
        exact ev_zret i_X0_needsHost_24 rfl (by decide)
def f_X0_needsHost (h : MH) (a0 : Nat) (x1 : Int32) : Option Int32 := gK h a0 0 (f_X0_needsHost_L2 (some (0 : Int32)) h a0 x1 fuel (0 : Int32))
set_option maxRecDepth 20000 in
theorem e_X0_needsHost {G : GG} {h : MH} {a0 : Nat} {x1 : Int32} {r : Int32} (hf : f_X0_needsHost h a0 x1 = some r) : Ev G 2 M_X0_needsHost 0 (ent M_X0_needsHost [.ref a0, .int x1]) [] h (some (.int r)) h := by
  unfold f_X0_needsHost at hf
  show Ev G 2 M_X0_needsHost 0 [some (.ref a0), some (.int x1), none] [] h (some (.int r)) h
  obtain ⟨-, hf⟩ := gK_of hf
  refine ev_iconst i_X0_needsHost_0 lt_i_0 ?_
  refine ev_istore_n i_X0_needsHost_1 (by decide) ?_
  exact l_X0_needsHost_2 (fun  r hf => by
    refine ev_iconst i_X0_needsHost_31 lt_i_0 ?_
    cases hf
    exact ev_zret i_X0_needsHost_32 rfl (by decide)) fuel (0 : Int32) _ hf
def f_X0_traceByBooks (h : MH) (a0 : Nat) (x1 : Int32) (x2 : Int32) : Option MH := gK h a0 0 ((gR h a0 0 0).bind fun b1 => (gR h a0 0 4).bind fun b5 => (f_X1_trace h b1 b5 (0 : Int32) x1 x2).bind fun h11 => (gR h11 a0 0 0).bind fun b15 => (gR h11 a0 0 5).bind fun b19 => (gR h11 a0 0 0).bind fun b23 => (f_X1_allNew h11 b23).bind fun v26 => (f_X1_trace h11 b15 b19 v26 x1 x2).bind fun h31 => some h31)
set_option maxRecDepth 20000 in
theorem e_X0_traceByBooks {G : GG} {h : MH} {a0 : Nat} {x1 : Int32} {x2 : Int32} {r : MH} (hf : f_X0_traceByBooks h a0 x1 x2 = some r) : Ev G 2 M_X0_traceByBooks 0 (ent M_X0_traceByBooks [.ref a0, .int x1, .int x2]) [] h none r := by
  unfold f_X0_traceByBooks at hf
  show Ev G 2 M_X0_traceByBooks 0 [some (.ref a0), some (.int x1), some (.int x2)] [] h none r
  obtain ⟨-, hf⟩ := gK_of hf
  refine ev_aload_n i_X0_traceByBooks_0 rfl ?_
  obtain ⟨b1, e1, hf⟩ := ob hf
  refine ev_gR i_X0_traceByBooks_1 fl_X0_37 rfl e1 ?_
  refine ev_aload_n i_X0_traceByBooks_4 rfl ?_
  obtain ⟨b5, e5, hf⟩ := ob hf
  refine ev_gR i_X0_traceByBooks_5 fl_X0_27 rfl e5 ?_
  refine ev_iconst i_X0_traceByBooks_8 lt_i_0 ?_
  refine ev_iload_n i_X0_traceByBooks_9 rfl ?_
  refine ev_iload_n i_X0_traceByBooks_10 rfl ?_
  obtain ⟨h11, e11, hf⟩ := ob hf
  refine ev_cV_v i_X0_traceByBooks_11 lk_X0_traceByBooks_72 [.ref b5, .int (0 : Int32), .int x1, .int x2] rfl rfl (by decide) (gK_of e11).1.1 (gK_of e11).1.2 (Nat.le_of_ble_eq_true rfl) (by decide) (e_X1_trace e11) ?_
  refine ev_aload_n i_X0_traceByBooks_14 rfl ?_
  obtain ⟨b15, e15, hf⟩ := ob hf
  refine ev_gR i_X0_traceByBooks_15 fl_X0_37 rfl e15 ?_
  refine ev_aload_n i_X0_traceByBooks_18 rfl ?_
  obtain ⟨b19, e19, hf⟩ := ob hf
  refine ev_gR i_X0_traceByBooks_19 fl_X0_31 rfl e19 ?_
  refine ev_aload_n i_X0_traceByBooks_22 rfl ?_
  obtain ⟨b23, e23, hf⟩ := ob hf
  refine ev_gR i_X0_traceByBooks_23 fl_X0_37 rfl e23 ?_
  obtain ⟨v26, e26, hf⟩ := ob hf
  refine ev_cV_i i_X0_traceByBooks_26 lk_X0_traceByBooks_101 [] rfl rfl (by decide) (gK_of e26).1.1 (gK_of e26).1.2 (Nat.le_of_ble_eq_true rfl) (by decide) (e_X1_allNew e26) ?_
  refine ev_iload_n i_X0_traceByBooks_29 rfl ?_
  refine ev_iload_n i_X0_traceByBooks_30 rfl ?_
  obtain ⟨h31, e31, hf⟩ := ob hf
  refine ev_cV_v i_X0_traceByBooks_31 lk_X0_traceByBooks_72 [.ref b19, .int v26, .int x1, .int x2] rfl rfl (by decide) (gK_of e31).1.1 (gK_of e31).1.2 (Nat.le_of_ble_eq_true rfl) (by decide) (e_X1_trace e31) ?_
  cases hf
  exact ev_vret i_X0_traceByBooks_34 rfl
def f_X0_leastBadMark_L20 (k92 : MH → Option (Int32 × MH)) (a0 : Nat) (x2 : Int32) (a3 : Nat) : Nat → MH → Int32 → Option (Int32 × MH)
  | 0, _, _ => none
  | n + 1, h, x4 => (if (16 : Int32) ≤ x4 then (k92 h) else ((f_X7_hasMark h a3 x4).bind fun v30 => (if v30 = 0 then (f_X0_leastBadMark_L20 k92 a0 x2 a3 n h (x4 + (1 : Int32))) else ((gI h a3 7 3).bind fun v38 => (f_X0_traceByBooks h a0 v38 x4).bind fun h43 => (gR h43 a0 0 0).bind fun b47 => (gR h43 a0 0 6).bind fun b51 => (gI h43 a3 7 3).bind fun v56 => (f_X1_trace h43 b47 b51 x2 v56 x4).bind fun h61 => (gR h61 a0 0 6).bind fun b66 => (gR h61 a0 0 4).bind fun b70 => (gR h61 a0 0 5).bind fun b74 => (f_X7_isMet h61 a3 b66 b70 b74).bind fun v77 => (if v77 = 0 then (some (x4, h61)) else (f_X0_leastBadMark_L20 k92 a0 x2 a3 n h61 (x4 + (1 : Int32))))))))
set_option maxRecDepth 20000 in
theorem l_X0_leastBadMark_20 {G : GG} {k92 : MH → Option (Int32 × MH)} {a0 : Nat} {x2 : Int32} {a3 : Nat} (hk92 : ∀ (hz : MH) (r : (Int32 × MH)), k92 hz = some r → Ev G 3 M_X0_leastBadMark 92 [none, none, none, none, none] [] hz (some (.int r.1)) r.2) : ∀ (n : Nat) (h : MH) (x4 : Int32) (r : (Int32 × MH)), f_X0_leastBadMark_L20 k92 a0 x2 a3 n h x4 = some r → Ev G 3 M_X0_leastBadMark 20 [some (.ref a0), none, some (.int x2), some (.ref a3), some (.int x4)] [] h (some (.int r.1)) r.2 := by
  intro n
  induction n with
  | zero => intro h x4 r hf; rw [f_X0_leastBadMark_L20] at hf; cases hf
  | succ n ih =>
    intro h x4 r hf
    rw [f_X0_leastBadMark_L20] at hf
    refine ev_iload i_X0_leastBadMark_20 rfl ?_
    refine ev_bipush i_X0_leastBadMark_22 lt_b_16 ?_
    refine ev_icmp_ge (tg := 92) i_X0_leastBadMark_24 (by decide) (fun c24 => ?_) (fun c24 => ?_)
    · rw [if_pos c24] at hf
      refine ev_sub (lc2 := [none, none, none, none, none]) ⟨Or.inl rfl, Or.inr rfl, Or.inl rfl, Or.inl rfl, Or.inl rfl, trivial⟩ ?_
      exact hk92 h _ hf
    · rw [if_neg c24] at hf
      refine ev_aload_n i_X0_leastBadMark_27 rfl ?_
      refine ev_iload i_X0_leastBadMark_28 rfl ?_
      obtain ⟨v30, e30, hf⟩ := ob hf
      refine ev_cV_i i_X0_leastBadMark_30 lk_X0_leastBadMark_62 [.int x4] rfl rfl (by decide) (gK_of e30).1.1 (gK_of e30).1.2 (Nat.le_of_ble_eq_true rfl) (by decide) (e_X7_hasMark e30) ?_
      refine ev_if_eq (tg := 86) i_X0_leastBadMark_33 (by decide) (fun c33 => ?_) (fun c33 => ?_)
      · rw [if_pos c33] at hf
        refine ev_iinc (y := (x4 + (1 : Int32))) i_X0_leastBadMark_86 rfl rfl (by decide) ?_
        refine ev_goto (tg := 20) i_X0_leastBadMark_89 (by decide) ?_
        exact ih h (x4 + (1 : Int32)) _ hf
      · rw [if_neg c33] at hf
        refine ev_aload_n i_X0_leastBadMark_36 rfl ?_
        refine ev_aload_n i_X0_leastBadMark_37 rfl ?_
        obtain ⟨v38, e38, hf⟩ := ob hf
        refine ev_gI i_X0_leastBadMark_38 fl_X0_65 rfl e38 ?_
        refine ev_iload i_X0_leastBadMark_41 rfl ?_
        obtain ⟨h43, e43, hf⟩ := ob hf
        refine ev_cV_v i_X0_leastBadMark_43 lk_X0_leastBadMark_68 [.int v38, .int x4] rfl rfl (by decide) (gK_of e43).1.1 (gK_of e43).1.2 (Nat.le_of_ble_eq_true rfl) (by decide) (e_X0_traceByBooks e43) ?_
        refine ev_aload_n i_X0_leastBadMark_46 rfl ?_
        obtain ⟨b47, e47, hf⟩ := ob hf
        refine ev_gR i_X0_leastBadMark_47 fl_X0_37 rfl e47 ?_
        refine ev_aload_n i_X0_leastBadMark_50 rfl ?_
        obtain ⟨b51, e51, hf⟩ := ob hf
        refine ev_gR i_X0_leastBadMark_51 fl_X0_34 rfl e51 ?_
        refine ev_iload_n i_X0_leastBadMark_54 rfl ?_
        refine ev_aload_n i_X0_leastBadMark_55 rfl ?_
        obtain ⟨v56, e56, hf⟩ := ob hf
        refine ev_gI i_X0_leastBadMark_56 fl_X0_65 rfl e56 ?_
        refine ev_iload i_X0_leastBadMark_59 rfl ?_
        obtain ⟨h61, e61, hf⟩ := ob hf
        refine ev_cV_v i_X0_leastBadMark_61 lk_X0_leastBadMark_72 [.ref b51, .int x2, .int v56, .int x4] rfl rfl (by decide) (gK_of e61).1.1 (gK_of e61).1.2 (Nat.le_of_ble_eq_true rfl) (by decide) (e_X1_trace e61) ?_
        refine ev_aload_n i_X0_leastBadMark_64 rfl ?_
        refine ev_aload_n i_X0_leastBadMark_65 rfl ?_
        obtain ⟨b66, e66, hf⟩ := ob hf
        refine ev_gR i_X0_leastBadMark_66 fl_X0_34 rfl e66 ?_
        refine ev_aload_n i_X0_leastBadMark_69 rfl ?_
        obtain ⟨b70, e70, hf⟩ := ob hf
        refine ev_gR i_X0_leastBadMark_70 fl_X0_27 rfl e70 ?_
        refine ev_aload_n i_X0_leastBadMark_73 rfl ?_
        obtain ⟨b74, e74, hf⟩ := ob hf
        refine ev_gR i_X0_leastBadMark_74 fl_X0_31 rfl e74 ?_
        obtain ⟨v77, e77, hf⟩ := ob hf
        refine ev_cV_i i_X0_leastBadMark_77 lk_X0_leastBadMark_78 [.ref b66, .ref b70, .ref b74] rfl rfl (by decide) (gK_of e77).1.1 (gK_of e77).1.2 (Nat.le_of_ble_eq_true rfl) (by decide) (e_X7_isMet e77) ?_
        refine ev_if_ne (tg := 86) i_X0_leastBadMark_80 (by decide) (fun c80 => ?_) (fun c80 => ?_)
        · rw [if_neg c80] at hf
          refine ev_iinc (y := (x4 + (1 : Int32))) i_X0_leastBadMark_86 rfl rfl (by decide) ?_
          refine ev_goto (tg := 20) i_X0_leastBadMark_89 (by decide) ?_
          exact ih h61 (x4 + (1 : Int32)) _ hf
        · rw [if_pos c80] at hf
          refine ev_iload i_X0_leastBadMark_83 rfl ?_
          cases hf
          exact ev_iiret i_X0_leastBadMark_85 rfl
def f_X0_leastBadMark (h : MH) (a0 : Nat) (x1 : Int32) (x2 : Int32) : Option (Int32 × MH) := gK h a0 0 ((f_X0_hasWant h a0 x1).bind fun v2 => (if v2 = 0 then (some ((-1 : Int32), h)) else ((gR h a0 0 1).bind fun b11 => (aR h b11 x1).bind fun b15 => f_X0_leastBadMark_L20 (fun he92 => some ((-1 : Int32), he92)) a0 x2 b15 fuel h (0 : Int32))))
set_option maxRecDepth 20000 in
theorem e_X0_leastBadMark {G : GG} {h : MH} {a0 : Nat} {x1 : Int32} {x2 : Int32} {r : (Int32 × MH)} (hf : f_X0_leastBadMark h a0 x1 x2 = some r) : Ev G 3 M_X0_leastBadMark 0 (ent M_X0_leastBadMark [.ref a0, .int x1, .int x2]) [] h (some (.int r.1)) r.2 := by
  unfold f_X0_leastBadMark at hf
  show Ev G 3 M_X0_leastBadMark 0 [some (.ref a0), some (.int x1), some (.int x2), none, none] [] h (some (.int r.1)) r.2
  obtain ⟨-, hf⟩ := gK_of hf
  refine ev_aload_n i_X0_leastBadMark_0 rfl ?_
  refine ev_iload_n i_X0_leastBadMark_1 rfl ?_
  obtain ⟨v2, e2, hf⟩ := ob hf
  refine ev_cV_i i_X0_leastBadMark_2 lk_X0_leastBadMark_55 [.int x1] rfl rfl (by decide) (gK_of e2).1.1 (gK_of e2).1.2 (Nat.le_of_ble_eq_true rfl) (by decide) (e_X0_hasWant e2) ?_
  refine ev_if_ne (tg := 10) i_X0_leastBadMark_5 (by decide) (fun c5 => ?_) (fun c5 => ?_)
  · rw [if_neg c5] at hf
    refine ev_aload_n i_X0_leastBadMark_10 rfl ?_
    obtain ⟨b11, e11, hf⟩ := ob hf
    refine ev_gR i_X0_leastBadMark_11 fl_X0_11 rfl e11 ?_
    refine ev_iload_n i_X0_leastBadMark_14 rfl ?_
    obtain ⟨b15, e15, hf⟩ := ob hf
    refine ev_aR i_X0_leastBadMark_15 e15 ?_
    refine ev_astore_n i_X0_leastBadMark_16 (by decide) ?_
    refine ev_iconst i_X0_leastBadMark_17 lt_i_0 ?_
    refine ev_istore i_X0_leastBadMark_18 (by decide) ?_
    refine ev_sub (lc2 := [some (.ref a0), none, some (.int x2), some (.ref b15), some (.int (0 : Int32))]) ⟨Or.inr rfl, Or.inl rfl, Or.inr rfl, Or.inr rfl, Or.inr rfl, trivial⟩ ?_
    exact l_X0_leastBadMark_20 (fun he92 r hf => by
      refine ev_iconst i_X0_leastBadMark_92 lt_i_m1 ?_
      cases hf
      exact ev_iiret i_X0_leastBadMark_93 rfl) fuel h (0 : Int32) _ hf
  · rw [if_pos c5] at hf
    refine ev_iconst i_X0_leastBadMark_8 lt_i_m1 ?_
    cases hf
    exact ev_iiret i_X0_leastBadMark_9 rfl
def f_X0_findKept_L10 (k61 : MH → Option MH) (a0 : Nat) : Nat → MH → Int32 → Option MH
  | 0, _, _ => none
  | n + 1, h, x1 => (gI h a0 0 7).bind fun v12 => (if v12 ≤ x1 then (k61 h) else ((gR h a0 0 2).bind fun b19 => (f_X0_leastBadMark h a0 x1 (0 : Int32)).bind fun r26 => (if r26.1 = (-1 : Int32) then ((gR r26.2 a0 0 0).bind fun b36 => (f_X1_allNew r26.2 b36).bind fun v39 => (f_X0_leastBadMark r26.2 a0 x1 v39).bind fun r42 => (if r42.1 = (-1 : Int32) then ((sZ r42.2 b19 x1 (1 : Int32)).bind fun h54 => f_X0_findKept_L10 k61 a0 n h54 (x1 + (1 : Int32))) else ((sZ r42.2 b19 x1 (0 : Int32)).bind fun h54 => f_X0_findKept_L10 k61 a0 n h54 (x1 + (1 : Int32))))) else ((sZ r26.2 b19 x1 (0 : Int32)).bind fun h54 => f_X0_findKept_L10 k61 a0 n h54 (x1 + (1 : Int32))))))
set_option maxRecDepth 20000 in
theorem l_X0_findKept_10 {G : GG} {k61 : MH → Option MH} {a0 : Nat} (hk61 : ∀ (hz : MH) (r : MH), k61 hz = some r → Ev G 4 M_X0_findKept 61 [some (.ref a0), none] [] hz none r) : ∀ (n : Nat) (h : MH) (x1 : Int32) (r : MH), f_X0_findKept_L10 k61 a0 n h x1 = some r → Ev G 4 M_X0_findKept 10 [some (.ref a0), some (.int x1)] [] h none r := by
  intro n
  induction n with
  | zero => intro h x1 r hf; rw [f_X0_findKept_L10] at hf; cases hf
  | succ n ih =>
    intro h x1 r hf
    rw [f_X0_findKept_L10] at hf
    refine ev_iload_n i_X0_findKept_10 rfl ?_
    refine ev_aload_n i_X0_findKept_11 rfl ?_
    obtain ⟨v12, e12, hf⟩ := ob hf
    refine ev_gI i_X0_findKept_12 fl_X0_51 rfl e12 ?_
    refine ev_icmp_ge (tg := 61) i_X0_findKept_15 (by decide) (fun c15 => ?_) (fun c15 => ?_)
    · rw [if_pos c15] at hf
      refine ev_sub (lc2 := [some (.ref a0), none]) ⟨Or.inr rfl, Or.inl rfl, trivial⟩ ?_
      exact hk61 h _ hf
    · rw [if_neg c15] at hf
      refine ev_aload_n i_X0_findKept_18 rfl ?_
      obtain ⟨b19, e19, hf⟩ := ob hf
      refine ev_gR i_X0_findKept_19 fl_X0_17 rfl e19 ?_
      refine ev_iload_n i_X0_findKept_22 rfl ?_
      refine ev_aload_n i_X0_findKept_23 rfl ?_
      refine ev_iload_n i_X0_findKept_24 rfl ?_
      refine ev_iconst i_X0_findKept_25 lt_i_0 ?_
      obtain ⟨r26, e26, hf⟩ := ob hf
      refine ev_cV_i i_X0_findKept_26 lk_X0_findKept_85 [.int x1, .int (0 : Int32)] rfl rfl (by decide) (gK_of e26).1.1 (gK_of e26).1.2 (Nat.le_of_ble_eq_true rfl) (by decide) (e_X0_leastBadMark e26) ?_
      refine ev_iconst i_X0_findKept_29 lt_i_m1 ?_
      refine ev_icmp_ne (tg := 53) i_X0_findKept_30 (by decide) (fun c30 => ?_) (fun c30 => ?_)
      · rw [if_neg c30] at hf
        refine ev_iconst i_X0_findKept_53 lt_i_0 ?_
        obtain ⟨h54, e54, hf⟩ := ob hf
        refine ev_sZ i_X0_findKept_54 e54 ?_
        refine ev_iinc (y := (x1 + (1 : Int32))) i_X0_findKept_55 rfl rfl (by decide) ?_
        refine ev_goto (tg := 10) i_X0_findKept_58 (by decide) ?_
        exact ih h54 (x1 + (1 : Int32)) _ hf
      · rw [if_pos c30] at hf
        refine ev_aload_n i_X0_findKept_33 rfl ?_
        refine ev_iload_n i_X0_findKept_34 rfl ?_
        refine ev_aload_n i_X0_findKept_35 rfl ?_
        obtain ⟨b36, e36, hf⟩ := ob hf
        refine ev_gR i_X0_findKept_36 fl_X0_37 rfl e36 ?_
        obtain ⟨v39, e39, hf⟩ := ob hf
        refine ev_cV_i i_X0_findKept_39 lk_X0_findKept_101 [] rfl rfl (by decide) (gK_of e39).1.1 (gK_of e39).1.2 (Nat.le_of_ble_eq_true rfl) (by decide) (e_X1_allNew e39) ?_
        obtain ⟨r42, e42, hf⟩ := ob hf
        refine ev_cV_i i_X0_findKept_42 lk_X0_findKept_85 [.int x1, .int v39] rfl rfl (by decide) (gK_of e42).1.1 (gK_of e42).1.2 (Nat.le_of_ble_eq_true rfl) (by decide) (e_X0_leastBadMark e42) ?_
        refine ev_iconst i_X0_findKept_45 lt_i_m1 ?_
        refine ev_icmp_ne (tg := 53) i_X0_findKept_46 (by decide) (fun c46 => ?_) (fun c46 => ?_)
        · rw [if_neg c46] at hf
          refine ev_iconst i_X0_findKept_53 lt_i_0 ?_
          obtain ⟨h54, e54, hf⟩ := ob hf
          refine ev_sZ i_X0_findKept_54 e54 ?_
          refine ev_iinc (y := (x1 + (1 : Int32))) i_X0_findKept_55 rfl rfl (by decide) ?_
          refine ev_goto (tg := 10) i_X0_findKept_58 (by decide) ?_
          exact ih h54 (x1 + (1 : Int32)) _ hf
        · rw [if_pos c46] at hf
          refine ev_iconst i_X0_findKept_49 lt_i_1 ?_
          refine ev_goto (tg := 54) i_X0_findKept_50 (by decide) ?_
          obtain ⟨h54, e54, hf⟩ := ob hf
          refine ev_sZ i_X0_findKept_54 e54 ?_
          refine ev_iinc (y := (x1 + (1 : Int32))) i_X0_findKept_55 rfl rfl (by decide) ?_
          refine ev_goto (tg := 10) i_X0_findKept_58 (by decide) ?_
          exact ih h54 (x1 + (1 : Int32)) _ hf
def f_X0_findKept (h : MH) (a0 : Nat) : Option MH := gK h a0 0 ((gI h a0 0 8).bind fun v1 => (if v1 = 0 then (f_X0_findKept_L10 (fun he61 => (pZ he61 a0 0 8 (1 : Int32)).bind fun h63 => some h63) a0 fuel h (0 : Int32)) else (some h)))
set_option maxRecDepth 20000 in
theorem e_X0_findKept {G : GG} {h : MH} {a0 : Nat} {r : MH} (hf : f_X0_findKept h a0 = some r) : Ev G 4 M_X0_findKept 0 (ent M_X0_findKept [.ref a0]) [] h none r := by
  unfold f_X0_findKept at hf
  show Ev G 4 M_X0_findKept 0 [some (.ref a0), none] [] h none r
  obtain ⟨-, hf⟩ := gK_of hf
  refine ev_aload_n i_X0_findKept_0 rfl ?_
  obtain ⟨v1, e1, hf⟩ := ob hf
  refine ev_gI i_X0_findKept_1 fl_X0_44 rfl e1 ?_
  refine ev_if_eq (tg := 8) i_X0_findKept_4 (by decide) (fun c4 => ?_) (fun c4 => ?_)
  · rw [if_pos c4] at hf
    refine ev_iconst i_X0_findKept_8 lt_i_0 ?_
    refine ev_istore_n i_X0_findKept_9 (by decide) ?_
    exact l_X0_findKept_10 (fun he61 r hf => by
      refine ev_aload_n i_X0_findKept_61 rfl ?_
      refine ev_iconst i_X0_findKept_62 lt_i_1 ?_
      obtain ⟨h63, e63, hf⟩ := ob hf
      refine ev_pZ i_X0_findKept_63 fp_X0_findKept_44 rfl e63 ?_
      cases hf
      exact ev_vret i_X0_findKept_66 rfl) fuel h (0 : Int32) _ hf
  · rw [if_neg c4] at hf
    cases hf
    exact ev_vret i_X0_findKept_7 rfl
def f_X0_isKept (h : MH) (a0 : Nat) (x1 : Int32) : Option (Int32 × MH) := gK h a0 0 ((f_X0_findKept h a0).bind fun h1 => (f_X0_hasWant h1 a0 x1).bind fun v6 => (if v6 = 0 then (some ((0 : Int32), h1)) else ((gR h1 a0 0 2).bind fun b13 => (aZ h1 b13 x1).bind fun v17 => (if v17 = 0 then (some ((0 : Int32), h1)) else (some ((1 : Int32), h1))))))
set_option maxRecDepth 20000 in
theorem e_X0_isKept {G : GG} {h : MH} {a0 : Nat} {x1 : Int32} {r : (Int32 × MH)} (hf : f_X0_isKept h a0 x1 = some r) : Ev G 5 M_X0_isKept 0 (ent M_X0_isKept [.ref a0, .int x1]) [] h (some (.int r.1)) r.2 := by
  unfold f_X0_isKept at hf
  show Ev G 5 M_X0_isKept 0 [some (.ref a0), some (.int x1)] [] h (some (.int r.1)) r.2
  obtain ⟨-, hf⟩ := gK_of hf
  refine ev_aload_n i_X0_isKept_0 rfl ?_
  obtain ⟨h1, e1, hf⟩ := ob hf
  refine ev_cV_v i_X0_isKept_1 lk_X0_isKept_82 [] rfl rfl (by decide) (gK_of e1).1.1 (gK_of e1).1.2 (Nat.le_of_ble_eq_true rfl) (by decide) (e_X0_findKept e1) ?_
  refine ev_aload_n i_X0_isKept_4 rfl ?_
  refine ev_iload_n i_X0_isKept_5 rfl ?_
  obtain ⟨v6, e6, hf⟩ := ob hf
  refine ev_cV_i i_X0_isKept_6 lk_X0_isKept_55 [.int x1] rfl rfl (by decide) (gK_of e6).1.1 (gK_of e6).1.2 (Nat.le_of_ble_eq_true rfl) (by decide) (e_X0_hasWant e6) ?_
  refine ev_if_eq (tg := 25) i_X0_isKept_9 (by decide) (fun c9 => ?_) (fun c9 => ?_)
  · rw [if_pos c9] at hf
    refine ev_iconst i_X0_isKept_25 lt_i_0 ?_
    cases hf
    exact ev_zret i_X0_isKept_26 rfl (by decide)
  · rw [if_neg c9] at hf
    refine ev_aload_n i_X0_isKept_12 rfl ?_
    obtain ⟨b13, e13, hf⟩ := ob hf
    refine ev_gR i_X0_isKept_13 fl_X0_17 rfl e13 ?_
    refine ev_iload_n i_X0_isKept_16 rfl ?_
    obtain ⟨v17, e17, hf⟩ := ob hf
    refine ev_aZ i_X0_isKept_17 e17 ?_
    refine ev_if_eq (tg := 25) i_X0_isKept_18 (by decide) (fun c18 => ?_) (fun c18 => ?_)
    · rw [if_pos c18] at hf
      refine ev_iconst i_X0_isKept_25 lt_i_0 ?_
      cases hf
      exact ev_zret i_X0_isKept_26 rfl (by decide)
    · rw [if_neg c18] at hf
      refine ev_iconst i_X0_isKept_21 lt_i_1 ?_
      refine ev_goto (tg := 26) i_X0_isKept_22 (by decide) ?_
      cases hf
      exact ev_zret i_X0_isKept_26 rfl (by decide)
def f_X0_firstBroken_L6 (k41 : MH → Option (Int32 × MH)) (a0 : Nat) (x1 : Int32) : Nat → MH → Int32 → Option (Int32 × MH)
  | 0, _, _ => none
  | n + 1, h, x2 => (gI h a0 0 7).bind fun v8 => (if v8 ≤ x2 then (k41 h) else ((gR h a0 0 2).bind fun b15 => (aZ h b15 x2).bind fun v19 => (if v19 = 0 then (f_X0_firstBroken_L6 k41 a0 x1 n h (x2 + (1 : Int32))) else ((f_X0_leastBadMark h a0 x2 x1).bind fun r26 => (if r26.1 = (-1 : Int32) then (f_X0_firstBroken_L6 k41 a0 x1 n r26.2 (x2 + (1 : Int32))) else (some (x2, r26.2)))))))
set_option maxRecDepth 20000 in
theorem l_X0_firstBroken_6 {G : GG} {k41 : MH → Option (Int32 × MH)} {a0 : Nat} {x1 : Int32} (hk41 : ∀ (hz : MH) (r : (Int32 × MH)), k41 hz = some r → Ev G 5 M_X0_firstBroken 41 [none, none, none] [] hz (some (.int r.1)) r.2) : ∀ (n : Nat) (h : MH) (x2 : Int32) (r : (Int32 × MH)), f_X0_firstBroken_L6 k41 a0 x1 n h x2 = some r → Ev G 5 M_X0_firstBroken 6 [some (.ref a0), some (.int x1), some (.int x2)] [] h (some (.int r.1)) r.2 := by
  intro n
  induction n with
  | zero => intro h x2 r hf; rw [f_X0_firstBroken_L6] at hf; cases hf
  | succ n ih =>
    intro h x2 r hf
    rw [f_X0_firstBroken_L6] at hf
    refine ev_iload_n i_X0_firstBroken_6 rfl ?_
    refine ev_aload_n i_X0_firstBroken_7 rfl ?_
    obtain ⟨v8, e8, hf⟩ := ob hf
    refine ev_gI i_X0_firstBroken_8 fl_X0_51 rfl e8 ?_
    refine ev_icmp_ge (tg := 41) i_X0_firstBroken_11 (by decide) (fun c11 => ?_) (fun c11 => ?_)
    · rw [if_pos c11] at hf
      refine ev_sub (lc2 := [none, none, none]) ⟨Or.inl rfl, Or.inl rfl, Or.inl rfl, trivial⟩ ?_
      exact hk41 h _ hf
    · rw [if_neg c11] at hf
      refine ev_aload_n i_X0_firstBroken_14 rfl ?_
      obtain ⟨b15, e15, hf⟩ := ob hf
      refine ev_gR i_X0_firstBroken_15 fl_X0_17 rfl e15 ?_
      refine ev_iload_n i_X0_firstBroken_18 rfl ?_
      obtain ⟨v19, e19, hf⟩ := ob hf
      refine ev_aZ i_X0_firstBroken_19 e19 ?_
      refine ev_if_eq (tg := 35) i_X0_firstBroken_20 (by decide) (fun c20 => ?_) (fun c20 => ?_)
      · rw [if_pos c20] at hf
        refine ev_iinc (y := (x2 + (1 : Int32))) i_X0_firstBroken_35 rfl rfl (by decide) ?_
        refine ev_goto (tg := 6) i_X0_firstBroken_38 (by decide) ?_
        exact ih h (x2 + (1 : Int32)) _ hf
      · rw [if_neg c20] at hf
        refine ev_aload_n i_X0_firstBroken_23 rfl ?_
        refine ev_iload_n i_X0_firstBroken_24 rfl ?_
        refine ev_iload_n i_X0_firstBroken_25 rfl ?_
        obtain ⟨r26, e26, hf⟩ := ob hf
        refine ev_cV_i i_X0_firstBroken_26 lk_X0_firstBroken_85 [.int x2, .int x1] rfl rfl (by decide) (gK_of e26).1.1 (gK_of e26).1.2 (Nat.le_of_ble_eq_true rfl) (by decide) (e_X0_leastBadMark e26) ?_
        refine ev_iconst i_X0_firstBroken_29 lt_i_m1 ?_
        refine ev_icmp_eq (tg := 35) i_X0_firstBroken_30 (by decide) (fun c30 => ?_) (fun c30 => ?_)
        · rw [if_pos c30] at hf
          refine ev_iinc (y := (x2 + (1 : Int32))) i_X0_firstBroken_35 rfl rfl (by decide) ?_
          refine ev_goto (tg := 6) i_X0_firstBroken_38 (by decide) ?_
          exact ih r26.2 (x2 + (1 : Int32)) _ hf
        · rw [if_neg c30] at hf
          refine ev_iload_n i_X0_firstBroken_33 rfl ?_
          cases hf
          exact ev_iiret i_X0_firstBroken_34 rfl
def f_X0_firstBroken (h : MH) (a0 : Nat) (x1 : Int32) : Option (Int32 × MH) := gK h a0 0 ((f_X0_findKept h a0).bind fun h1 => f_X0_firstBroken_L6 (fun he41 => some ((-1 : Int32), he41)) a0 x1 fuel h1 (0 : Int32))
set_option maxRecDepth 20000 in
theorem e_X0_firstBroken {G : GG} {h : MH} {a0 : Nat} {x1 : Int32} {r : (Int32 × MH)} (hf : f_X0_firstBroken h a0 x1 = some r) : Ev G 5 M_X0_firstBroken 0 (ent M_X0_firstBroken [.ref a0, .int x1]) [] h (some (.int r.1)) r.2 := by
  unfold f_X0_firstBroken at hf
  show Ev G 5 M_X0_firstBroken 0 [some (.ref a0), some (.int x1), none] [] h (some (.int r.1)) r.2
  obtain ⟨-, hf⟩ := gK_of hf
  refine ev_aload_n i_X0_firstBroken_0 rfl ?_
  obtain ⟨h1, e1, hf⟩ := ob hf
  refine ev_cV_v i_X0_firstBroken_1 lk_X0_firstBroken_82 [] rfl rfl (by decide) (gK_of e1).1.1 (gK_of e1).1.2 (Nat.le_of_ble_eq_true rfl) (by decide) (e_X0_findKept e1) ?_
  refine ev_iconst i_X0_firstBroken_4 lt_i_0 ?_
  refine ev_istore_n i_X0_firstBroken_5 (by decide) ?_
  exact l_X0_firstBroken_6 (fun he41 r hf => by
    refine ev_iconst i_X0_firstBroken_41 lt_i_m1 ?_
    cases hf
    exact ev_iiret i_X0_firstBroken_42 rfl) fuel h1 (0 : Int32) _ hf
def f_X0_countBroken_L16 (k88 : Int32 → Option (Int32 × MH)) (h : MH) (a0 : Nat) (x1 : Int32) (x2 : Int32) (a3 : Nat) : Nat → Int32 → Int32 → Option (Int32 × MH)
  | 0, _, _ => none
  | n + 1, x4, x5 => (gI h a0 0 7).bind fun v19 => (if v19 ≤ x5 then (k88 x4) else ((gR h a0 0 1).bind fun b26 => (aR h b26 x5).bind fun b31 => (gR h a0 0 2).bind fun b35 => (aZ h b35 x5).bind fun v40 => (if v40 = 0 then (f_X0_countBroken_L16 k88 h a0 x1 x2 a3 n x4 (x5 + (1 : Int32))) else ((gI h b31 7 3).bind fun v46 => (if v46 = x1 then ((f_X7_hasMark h b31 x2).bind fun v56 => (if v56 = 0 then (f_X0_countBroken_L16 k88 h a0 x1 x2 a3 n x4 (x5 + (1 : Int32))) else ((gR h a0 0 4).bind fun b66 => (gR h a0 0 5).bind fun b70 => (f_X7_isMet h b31 a3 b66 b70).bind fun v73 => (if v73 = 0 then (f_X0_countBroken_L16 k88 h a0 x1 x2 a3 n (x4 + (1 : Int32)) (x5 + (1 : Int32))) else (f_X0_countBroken_L16 k88 h a0 x1 x2 a3 n x4 (x5 + (1 : Int32))))))) else (f_X0_countBroken_L16 k88 h a0 x1 x2 a3 n x4 (x5 + (1 : Int32))))))))
set_option maxRecDepth 20000 in
theorem l_X0_countBroken_16 {G : GG} {k88 : Int32 → Option (Int32 × MH)} {h : MH} {a0 : Nat} {x1 : Int32} {x2 : Int32} {a3 : Nat} (hk88 : ∀ (x4z : Int32) (r : (Int32 × MH)), k88 x4z = some r → Ev G 5 M_X0_countBroken 88 [none, none, none, none, some (.int x4z), none, none] [] h (some (.int r.1)) r.2) : ∀ (n : Nat) (x4 : Int32) (x5 : Int32) (r : (Int32 × MH)), f_X0_countBroken_L16 k88 h a0 x1 x2 a3 n x4 x5 = some r → Ev G 5 M_X0_countBroken 16 [some (.ref a0), some (.int x1), some (.int x2), some (.ref a3), some (.int x4), some (.int x5), none] [] h (some (.int r.1)) r.2 := by
  intro n
  induction n with
  | zero => intro x4 x5 r hf; rw [f_X0_countBroken_L16] at hf; cases hf
  | succ n ih =>
    intro x4 x5 r hf
    rw [f_X0_countBroken_L16] at hf
    refine ev_iload i_X0_countBroken_16 rfl ?_
    refine ev_aload_n i_X0_countBroken_18 rfl ?_
    obtain ⟨v19, e19, hf⟩ := ob hf
    refine ev_gI i_X0_countBroken_19 fl_X0_51 rfl e19 ?_
    refine ev_icmp_ge (tg := 88) i_X0_countBroken_22 (by decide) (fun c22 => ?_) (fun c22 => ?_)
    · rw [if_pos c22] at hf
      refine ev_sub (lc2 := [none, none, none, none, some (.int x4), none, none]) ⟨Or.inl rfl, Or.inl rfl, Or.inl rfl, Or.inl rfl, Or.inr rfl, Or.inl rfl, Or.inr rfl, trivial⟩ ?_
      exact hk88 x4 _ hf
    · rw [if_neg c22] at hf
      refine ev_aload_n i_X0_countBroken_25 rfl ?_
      obtain ⟨b26, e26, hf⟩ := ob hf
      refine ev_gR i_X0_countBroken_26 fl_X0_11 rfl e26 ?_
      refine ev_iload i_X0_countBroken_29 rfl ?_
      obtain ⟨b31, e31, hf⟩ := ob hf
      refine ev_aR i_X0_countBroken_31 e31 ?_
      refine ev_astore i_X0_countBroken_32 (by decide) ?_
      refine ev_aload_n i_X0_countBroken_34 rfl ?_
      obtain ⟨b35, e35, hf⟩ := ob hf
      refine ev_gR i_X0_countBroken_35 fl_X0_17 rfl e35 ?_
      refine ev_iload i_X0_countBroken_38 rfl ?_
      obtain ⟨v40, e40, hf⟩ := ob hf
      refine ev_aZ i_X0_countBroken_40 e40 ?_
      refine ev_if_eq (tg := 82) i_X0_countBroken_41 (by decide) (fun c41 => ?_) (fun c41 => ?_)
      · rw [if_pos c41] at hf
        refine ev_iinc (y := (x5 + (1 : Int32))) i_X0_countBroken_82 rfl rfl (by decide) ?_
        refine ev_goto (tg := 16) i_X0_countBroken_85 (by decide) ?_
        refine ev_sub (lc2 := [some (.ref a0), some (.int x1), some (.int x2), some (.ref a3), some (.int x4), some (.int (x5 + (1 : Int32))), none]) ⟨Or.inr rfl, Or.inr rfl, Or.inr rfl, Or.inr rfl, Or.inr rfl, Or.inr rfl, Or.inl rfl, trivial⟩ ?_
        exact ih x4 (x5 + (1 : Int32)) _ hf
      · rw [if_neg c41] at hf
        refine ev_aload i_X0_countBroken_44 rfl ?_
        obtain ⟨v46, e46, hf⟩ := ob hf
        refine ev_gI i_X0_countBroken_46 fl_X0_65 rfl e46 ?_
        refine ev_iload_n i_X0_countBroken_49 rfl ?_
        refine ev_icmp_ne (tg := 82) i_X0_countBroken_50 (by decide) (fun c50 => ?_) (fun c50 => ?_)
        · rw [if_neg c50] at hf
          refine ev_iinc (y := (x5 + (1 : Int32))) i_X0_countBroken_82 rfl rfl (by decide) ?_
          refine ev_goto (tg := 16) i_X0_countBroken_85 (by decide) ?_
          refine ev_sub (lc2 := [some (.ref a0), some (.int x1), some (.int x2), some (.ref a3), some (.int x4), some (.int (x5 + (1 : Int32))), none]) ⟨Or.inr rfl, Or.inr rfl, Or.inr rfl, Or.inr rfl, Or.inr rfl, Or.inr rfl, Or.inl rfl, trivial⟩ ?_
          exact ih x4 (x5 + (1 : Int32)) _ hf
        · rw [if_pos c50] at hf
          refine ev_aload i_X0_countBroken_53 rfl ?_
          refine ev_iload_n i_X0_countBroken_55 rfl ?_
          obtain ⟨v56, e56, hf⟩ := ob hf
          refine ev_cV_i i_X0_countBroken_56 lk_X0_countBroken_62 [.int x2] rfl rfl (by decide) (gK_of e56).1.1 (gK_of e56).1.2 (Nat.le_of_ble_eq_true rfl) (by decide) (e_X7_hasMark e56) ?_
          refine ev_if_eq (tg := 82) i_X0_countBroken_59 (by decide) (fun c59 => ?_) (fun c59 => ?_)
          · rw [if_pos c59] at hf
            refine ev_iinc (y := (x5 + (1 : Int32))) i_X0_countBroken_82 rfl rfl (by decide) ?_
            refine ev_goto (tg := 16) i_X0_countBroken_85 (by decide) ?_
            refine ev_sub (lc2 := [some (.ref a0), some (.int x1), some (.int x2), some (.ref a3), some (.int x4), some (.int (x5 + (1 : Int32))), none]) ⟨Or.inr rfl, Or.inr rfl, Or.inr rfl, Or.inr rfl, Or.inr rfl, Or.inr rfl, Or.inl rfl, trivial⟩ ?_
            exact ih x4 (x5 + (1 : Int32)) _ hf
          · rw [if_neg c59] at hf
            refine ev_aload i_X0_countBroken_62 rfl ?_
            refine ev_aload_n i_X0_countBroken_64 rfl ?_
            refine ev_aload_n i_X0_countBroken_65 rfl ?_
            obtain ⟨b66, e66, hf⟩ := ob hf
            refine ev_gR i_X0_countBroken_66 fl_X0_27 rfl e66 ?_
            refine ev_aload_n i_X0_countBroken_69 rfl ?_
            obtain ⟨b70, e70, hf⟩ := ob hf
            refine ev_gR i_X0_countBroken_70 fl_X0_31 rfl e70 ?_
            obtain ⟨v73, e73, hf⟩ := ob hf
            refine ev_cV_i i_X0_countBroken_73 lk_X0_countBroken_78 [.ref a3, .ref b66, .ref b70] rfl rfl (by decide) (gK_of e73).1.1 (gK_of e73).1.2 (Nat.le_of_ble_eq_true rfl) (by decide) (e_X7_isMet e73) ?_
            refine ev_if_ne (tg := 82) i_X0_countBroken_76 (by decide) (fun c76 => ?_) (fun c76 => ?_)
            · rw [if_neg c76] at hf
              refine ev_iinc (y := (x5 + (1 : Int32))) i_X0_countBroken_82 rfl rfl (by decide) ?_
              refine ev_goto (tg := 16) i_X0_countBroken_85 (by decide) ?_
              refine ev_sub (lc2 := [some (.ref a0), some (.int x1), some (.int x2), some (.ref a3), some (.int x4), some (.int (x5 + (1 : Int32))), none]) ⟨Or.inr rfl, Or.inr rfl, Or.inr rfl, Or.inr rfl, Or.inr rfl, Or.inr rfl, Or.inl rfl, trivial⟩ ?_
              exact ih x4 (x5 + (1 : Int32)) _ hf
            · rw [if_pos c76] at hf
              refine ev_iinc (y := (x4 + (1 : Int32))) i_X0_countBroken_79 rfl rfl (by decide) ?_
              refine ev_iinc (y := (x5 + (1 : Int32))) i_X0_countBroken_82 rfl rfl (by decide) ?_
              refine ev_goto (tg := 16) i_X0_countBroken_85 (by decide) ?_
              refine ev_sub (lc2 := [some (.ref a0), some (.int x1), some (.int x2), some (.ref a3), some (.int (x4 + (1 : Int32))), some (.int (x5 + (1 : Int32))), none]) ⟨Or.inr rfl, Or.inr rfl, Or.inr rfl, Or.inr rfl, Or.inr rfl, Or.inr rfl, Or.inl rfl, trivial⟩ ?_
              exact ih (x4 + (1 : Int32)) (x5 + (1 : Int32)) _ hf
def f_X0_countBroken (h : MH) (a0 : Nat) (x1 : Int32) (x2 : Int32) (a3 : Nat) : Option (Int32 × MH) := gK h a0 0 ((f_X0_findKept h a0).bind fun h1 => (f_X0_traceByBooks h1 a0 x1 x2).bind fun h7 => f_X0_countBroken_L16 (fun x4e88 => some (x4e88, h7)) h7 a0 x1 x2 a3 fuel (0 : Int32) (0 : Int32))
set_option maxRecDepth 20000 in
theorem e_X0_countBroken {G : GG} {h : MH} {a0 : Nat} {x1 : Int32} {x2 : Int32} {a3 : Nat} {r : (Int32 × MH)} (hf : f_X0_countBroken h a0 x1 x2 a3 = some r) : Ev G 5 M_X0_countBroken 0 (ent M_X0_countBroken [.ref a0, .int x1, .int x2, .ref a3]) [] h (some (.int r.1)) r.2 := by
  unfold f_X0_countBroken at hf
  show Ev G 5 M_X0_countBroken 0 [some (.ref a0), some (.int x1), some (.int x2), some (.ref a3), none, none, none] [] h (some (.int r.1)) r.2
  obtain ⟨-, hf⟩ := gK_of hf
  refine ev_aload_n i_X0_countBroken_0 rfl ?_
  obtain ⟨h1, e1, hf⟩ := ob hf
  refine ev_cV_v i_X0_countBroken_1 lk_X0_countBroken_82 [] rfl rfl (by decide) (gK_of e1).1.1 (gK_of e1).1.2 (Nat.le_of_ble_eq_true rfl) (by decide) (e_X0_findKept e1) ?_
  refine ev_aload_n i_X0_countBroken_4 rfl ?_
  refine ev_iload_n i_X0_countBroken_5 rfl ?_
  refine ev_iload_n i_X0_countBroken_6 rfl ?_
  obtain ⟨h7, e7, hf⟩ := ob hf
  refine ev_cV_v i_X0_countBroken_7 lk_X0_countBroken_68 [.int x1, .int x2] rfl rfl (by decide) (gK_of e7).1.1 (gK_of e7).1.2 (Nat.le_of_ble_eq_true rfl) (by decide) (e_X0_traceByBooks e7) ?_
  refine ev_iconst i_X0_countBroken_10 lt_i_0 ?_
  refine ev_istore i_X0_countBroken_11 (by decide) ?_
  refine ev_iconst i_X0_countBroken_13 lt_i_0 ?_
  refine ev_istore i_X0_countBroken_14 (by decide) ?_
  exact l_X0_countBroken_16 (fun x4e88 r hf => by
    refine ev_iload i_X0_countBroken_88 rfl ?_
    cases hf
    exact ev_iiret i_X0_countBroken_90 rfl) fuel (0 : Int32) (0 : Int32) _ hf
def f_X9_isWithin (h : MH) (x0 : Int32) (x1 : Int32) : Option Int32 := (if (x0 &&& (x1 ^^^ (-1 : Int32))) = 0 then (some (1 : Int32)) else (some (0 : Int32)))
set_option maxRecDepth 20000 in
theorem e_X9_isWithin {G : GG} {h : MH} {x0 : Int32} {x1 : Int32} {r : Int32} (hf : f_X9_isWithin h x0 x1 = some r) : Ev G 0 M_X9_isWithin 0 (ent M_X9_isWithin [.int x0, .int x1]) [] h (some (.int r)) h := by
  unfold f_X9_isWithin at hf
  show Ev G 0 M_X9_isWithin 0 [some (.int x0), some (.int x1)] [] h (some (.int r)) h
  refine ev_iload_n i_X9_isWithin_0 rfl ?_
  refine ev_iload_n i_X9_isWithin_1 rfl ?_
  refine ev_iconst i_X9_isWithin_2 lt_i_m1 ?_
  refine ev_ixor i_X9_isWithin_3 ?_
  refine ev_iand i_X9_isWithin_4 ?_
  refine ev_if_ne (tg := 12) i_X9_isWithin_5 (by decide) (fun c5 => ?_) (fun c5 => ?_)
  · rw [if_neg c5] at hf
    refine ev_iconst i_X9_isWithin_12 lt_i_0 ?_
    cases hf
    exact ev_zret i_X9_isWithin_13 rfl (by decide)
  · rw [if_pos c5] at hf
    refine ev_iconst i_X9_isWithin_8 lt_i_1 ?_
    refine ev_goto (tg := 13) i_X9_isWithin_9 (by decide) ?_
    cases hf
    exact ev_zret i_X9_isWithin_13 rfl (by decide)
def f_X0_strikeNotGood_L11 (k72 : MH → Option MH) (a0 : Nat) (a1 : Nat) (x2 : Int32) : Nat → MH → Int32 → Option MH
  | 0, _, _ => none
  | n + 1, h, x3 => (if (128 : Int32) ≤ x3 then (k72 h) else ((gR h a0 0 3).bind fun b19 => (aZ h b19 x3).bind fun v23 => (if v23 = 0 then (f_X0_strikeNotGood_L11 k72 a0 a1 x2 n h (x3 + (1 : Int32))) else ((gR h a0 0 0).bind fun b28 => (gR h a0 0 6).bind fun b32 => (gI h a1 7 3).bind fun v37 => (f_X1_trace h b28 b32 x3 v37 x2).bind fun h41 => (gR h41 a0 0 3).bind fun b45 => (gR h41 a0 0 6).bind fun b51 => (gR h41 a0 0 4).bind fun b55 => (gR h41 a0 0 5).bind fun b59 => (f_X7_isMet h41 a1 b51 b55 b59).bind fun v62 => (sZ h41 b45 x3 v62).bind fun h65 => f_X0_strikeNotGood_L11 k72 a0 a1 x2 n h65 (x3 + (1 : Int32))))))
set_option maxRecDepth 20000 in
theorem l_X0_strikeNotGood_11 {G : GG} {k72 : MH → Option MH} {a0 : Nat} {a1 : Nat} {x2 : Int32} (hk72 : ∀ (hz : MH) (r : MH), k72 hz = some r → Ev G 3 M_X0_strikeNotGood 72 [none, none, none, none] [] hz none r) : ∀ (n : Nat) (h : MH) (x3 : Int32) (r : MH), f_X0_strikeNotGood_L11 k72 a0 a1 x2 n h x3 = some r → Ev G 3 M_X0_strikeNotGood 11 [some (.ref a0), some (.ref a1), some (.int x2), some (.int x3)] [] h none r := by
  intro n
  induction n with
  | zero => intro h x3 r hf; rw [f_X0_strikeNotGood_L11] at hf; cases hf
  | succ n ih =>
    intro h x3 r hf
    rw [f_X0_strikeNotGood_L11] at hf
    refine ev_iload_n i_X0_strikeNotGood_11 rfl ?_
    refine ev_sipush i_X0_strikeNotGood_12 lt_s_128 ?_
    refine ev_icmp_ge (tg := 72) i_X0_strikeNotGood_15 (by decide) (fun c15 => ?_) (fun c15 => ?_)
    · rw [if_pos c15] at hf
      refine ev_sub (lc2 := [none, none, none, none]) ⟨Or.inl rfl, Or.inl rfl, Or.inl rfl, Or.inl rfl, trivial⟩ ?_
      exact hk72 h _ hf
    · rw [if_neg c15] at hf
      refine ev_aload_n i_X0_strikeNotGood_18 rfl ?_
      obtain ⟨b19, e19, hf⟩ := ob hf
      refine ev_gR i_X0_strikeNotGood_19 fl_X0_21 rfl e19 ?_
      refine ev_iload_n i_X0_strikeNotGood_22 rfl ?_
      obtain ⟨v23, e23, hf⟩ := ob hf
      refine ev_aZ i_X0_strikeNotGood_23 e23 ?_
      refine ev_if_eq (tg := 66) i_X0_strikeNotGood_24 (by decide) (fun c24 => ?_) (fun c24 => ?_)
      · rw [if_pos c24] at hf
        refine ev_iinc (y := (x3 + (1 : Int32))) i_X0_strikeNotGood_66 rfl rfl (by decide) ?_
        refine ev_goto (tg := 11) i_X0_strikeNotGood_69 (by decide) ?_
        exact ih h (x3 + (1 : Int32)) _ hf
      · rw [if_neg c24] at hf
        refine ev_aload_n i_X0_strikeNotGood_27 rfl ?_
        obtain ⟨b28, e28, hf⟩ := ob hf
        refine ev_gR i_X0_strikeNotGood_28 fl_X0_37 rfl e28 ?_
        refine ev_aload_n i_X0_strikeNotGood_31 rfl ?_
        obtain ⟨b32, e32, hf⟩ := ob hf
        refine ev_gR i_X0_strikeNotGood_32 fl_X0_34 rfl e32 ?_
        refine ev_iload_n i_X0_strikeNotGood_35 rfl ?_
        refine ev_aload_n i_X0_strikeNotGood_36 rfl ?_
        obtain ⟨v37, e37, hf⟩ := ob hf
        refine ev_gI i_X0_strikeNotGood_37 fl_X0_65 rfl e37 ?_
        refine ev_iload_n i_X0_strikeNotGood_40 rfl ?_
        obtain ⟨h41, e41, hf⟩ := ob hf
        refine ev_cV_v i_X0_strikeNotGood_41 lk_X0_strikeNotGood_72 [.ref b32, .int x3, .int v37, .int x2] rfl rfl (by decide) (gK_of e41).1.1 (gK_of e41).1.2 (Nat.le_of_ble_eq_true rfl) (by decide) (e_X1_trace e41) ?_
        refine ev_aload_n i_X0_strikeNotGood_44 rfl ?_
        obtain ⟨b45, e45, hf⟩ := ob hf
        refine ev_gR i_X0_strikeNotGood_45 fl_X0_21 rfl e45 ?_
        refine ev_iload_n i_X0_strikeNotGood_48 rfl ?_
        refine ev_aload_n i_X0_strikeNotGood_49 rfl ?_
        refine ev_aload_n i_X0_strikeNotGood_50 rfl ?_
        obtain ⟨b51, e51, hf⟩ := ob hf
        refine ev_gR i_X0_strikeNotGood_51 fl_X0_34 rfl e51 ?_
        refine ev_aload_n i_X0_strikeNotGood_54 rfl ?_
        obtain ⟨b55, e55, hf⟩ := ob hf
        refine ev_gR i_X0_strikeNotGood_55 fl_X0_27 rfl e55 ?_
        refine ev_aload_n i_X0_strikeNotGood_58 rfl ?_
        obtain ⟨b59, e59, hf⟩ := ob hf
        refine ev_gR i_X0_strikeNotGood_59 fl_X0_31 rfl e59 ?_
        obtain ⟨v62, e62, hf⟩ := ob hf
        refine ev_cV_i i_X0_strikeNotGood_62 lk_X0_strikeNotGood_78 [.ref b51, .ref b55, .ref b59] rfl rfl (by decide) (gK_of e62).1.1 (gK_of e62).1.2 (Nat.le_of_ble_eq_true rfl) (by decide) (e_X7_isMet e62) ?_
        obtain ⟨h65, e65, hf⟩ := ob hf
        refine ev_sZ i_X0_strikeNotGood_65 e65 ?_
        refine ev_iinc (y := (x3 + (1 : Int32))) i_X0_strikeNotGood_66 rfl rfl (by decide) ?_
        refine ev_goto (tg := 11) i_X0_strikeNotGood_69 (by decide) ?_
        exact ih h65 (x3 + (1 : Int32)) _ hf
def f_X0_strikeNotGood (h : MH) (a0 : Nat) (a1 : Nat) (x2 : Int32) : Option MH := gK h a0 0 ((gI h a1 7 3).bind fun v2 => (f_X0_traceByBooks h a0 v2 x2).bind fun h6 => f_X0_strikeNotGood_L11 (fun he72 => some he72) a0 a1 x2 fuel h6 (0 : Int32))
set_option maxRecDepth 20000 in
theorem e_X0_strikeNotGood {G : GG} {h : MH} {a0 : Nat} {a1 : Nat} {x2 : Int32} {r : MH} (hf : f_X0_strikeNotGood h a0 a1 x2 = some r) : Ev G 3 M_X0_strikeNotGood 0 (ent M_X0_strikeNotGood [.ref a0, .ref a1, .int x2]) [] h none r := by
  unfold f_X0_strikeNotGood at hf
  show Ev G 3 M_X0_strikeNotGood 0 [some (.ref a0), some (.ref a1), some (.int x2), none] [] h none r
  obtain ⟨-, hf⟩ := gK_of hf
  refine ev_aload_n i_X0_strikeNotGood_0 rfl ?_
  refine ev_aload_n i_X0_strikeNotGood_1 rfl ?_
  obtain ⟨v2, e2, hf⟩ := ob hf
  refine ev_gI i_X0_strikeNotGood_2 fl_X0_65 rfl e2 ?_
  refine ev_iload_n i_X0_strikeNotGood_5 rfl ?_
  obtain ⟨h6, e6, hf⟩ := ob hf
  refine ev_cV_v i_X0_strikeNotGood_6 lk_X0_strikeNotGood_68 [.int v2, .int x2] rfl rfl (by decide) (gK_of e6).1.1 (gK_of e6).1.2 (Nat.le_of_ble_eq_true rfl) (by decide) (e_X0_traceByBooks e6) ?_
  refine ev_iconst i_X0_strikeNotGood_9 lt_i_0 ?_
  refine ev_istore_n i_X0_strikeNotGood_10 (by decide) ?_
  exact l_X0_strikeNotGood_11 (fun he72 r hf => by
    cases hf
    exact ev_vret i_X0_strikeNotGood_72 rfl) fuel h6 (0 : Int32) _ hf
def f_X0_findGood_L22 (k46 : MH → Option MH) (a0 : Nat) (x1 : Int32) : Nat → MH → Int32 → Option MH
  | 0, _, _ => none
  | n + 1, h, x2 => (if (128 : Int32) ≤ x2 then (k46 h) else ((gR h a0 0 3).bind fun b30 => (f_X9_isWithin h x2 x1).bind fun v36 => (sZ h b30 x2 v36).bind fun h39 => f_X0_findGood_L22 k46 a0 x1 n h39 (x2 + (1 : Int32))))
set_option maxRecDepth 20000 in
theorem l_X0_findGood_22 {G : GG} {k46 : MH → Option MH} {a0 : Nat} {x1 : Int32} (hk46 : ∀ (hz : MH) (r : MH), k46 hz = some r → Ev G 5 M_X0_findGood 46 [some (.ref a0), none, none, none] [] hz none r) : ∀ (n : Nat) (h : MH) (x2 : Int32) (r : MH), f_X0_findGood_L22 k46 a0 x1 n h x2 = some r → Ev G 5 M_X0_findGood 22 [some (.ref a0), some (.int x1), some (.int x2), none] [] h none r := by
  intro n
  induction n with
  | zero => intro h x2 r hf; rw [f_X0_findGood_L22] at hf; cases hf
  | succ n ih =>
    intro h x2 r hf
    rw [f_X0_findGood_L22] at hf
    refine ev_iload_n i_X0_findGood_22 rfl ?_
    refine ev_sipush i_X0_findGood_23 lt_s_128 ?_
    refine ev_icmp_ge (tg := 46) i_X0_findGood_26 (by decide) (fun c26 => ?_) (fun c26 => ?_)
    · rw [if_pos c26] at hf
      refine ev_sub (lc2 := [some (.ref a0), none, none, none]) ⟨Or.inr rfl, Or.inl rfl, Or.inl rfl, Or.inr rfl, trivial⟩ ?_
      exact hk46 h _ hf
    · rw [if_neg c26] at hf
      refine ev_aload_n i_X0_findGood_29 rfl ?_
      obtain ⟨b30, e30, hf⟩ := ob hf
      refine ev_gR i_X0_findGood_30 fl_X0_21 rfl e30 ?_
      refine ev_iload_n i_X0_findGood_33 rfl ?_
      refine ev_iload_n i_X0_findGood_34 rfl ?_
      refine ev_iload_n i_X0_findGood_35 rfl ?_
      obtain ⟨v36, e36, hf⟩ := ob hf
      refine ev_cS_i i_X0_findGood_36 lk_X0_findGood_93 [.int x2, .int x1] rfl rfl (by decide) (Nat.le_of_ble_eq_true rfl) (by decide) (e_X9_isWithin e36) ?_
      obtain ⟨h39, e39, hf⟩ := ob hf
      refine ev_sZ i_X0_findGood_39 e39 ?_
      refine ev_iinc (y := (x2 + (1 : Int32))) i_X0_findGood_40 rfl rfl (by decide) ?_
      refine ev_goto (tg := 22) i_X0_findGood_43 (by decide) ?_
      exact ih h39 (x2 + (1 : Int32)) _ hf
def f_X0_findGood_L58 (k103 : MH → Option MH) (a0 : Nat) (x2 : Int32) : Nat → MH → Int32 → Option MH
  | 0, _, _ => none
  | n + 1, h, x3 => (if (16 : Int32) ≤ x3 then (k103 h) else ((gR h a0 0 2).bind fun b65 => (aZ h b65 x2).bind fun v69 => (if v69 = 0 then (f_X0_findGood_L58 k103 a0 x2 n h (x3 + (1 : Int32))) else ((gR h a0 0 1).bind fun b74 => (aR h b74 x2).bind fun b78 => (f_X7_hasMark h b78 x3).bind fun v80 => (if v80 = 0 then (f_X0_findGood_L58 k103 a0 x2 n h (x3 + (1 : Int32))) else ((gR h a0 0 1).bind fun b88 => (aR h b88 x2).bind fun b92 => (f_X0_strikeNotGood h a0 b92 x3).bind fun h94 => f_X0_findGood_L58 k103 a0 x2 n h94 (x3 + (1 : Int32))))))))
set_option maxRecDepth 20000 in
theorem l_X0_findGood_58 {G : GG} {k103 : MH → Option MH} {a0 : Nat} {x2 : Int32} (hk103 : ∀ (hz : MH) (r : MH), k103 hz = some r → Ev G 5 M_X0_findGood 103 [some (.ref a0), none, some (.int x2), none] [] hz none r) : ∀ (n : Nat) (h : MH) (x3 : Int32) (r : MH), f_X0_findGood_L58 k103 a0 x2 n h x3 = some r → Ev G 5 M_X0_findGood 58 [some (.ref a0), none, some (.int x2), some (.int x3)] [] h none r := by
  intro n
  induction n with
  | zero => intro h x3 r hf; rw [f_X0_findGood_L58] at hf; cases hf
  | succ n ih =>
    intro h x3 r hf
    rw [f_X0_findGood_L58] at hf
    refine ev_iload_n i_X0_findGood_58 rfl ?_
    refine ev_bipush i_X0_findGood_59 lt_b_16 ?_
    refine ev_icmp_ge (tg := 103) i_X0_findGood_61 (by decide) (fun c61 => ?_) (fun c61 => ?_)
    · rw [if_pos c61] at hf
      refine ev_sub (lc2 := [some (.ref a0), none, some (.int x2), none]) ⟨Or.inr rfl, Or.inr rfl, Or.inr rfl, Or.inl rfl, trivial⟩ ?_
      exact hk103 h _ hf
    · rw [if_neg c61] at hf
      refine ev_aload_n i_X0_findGood_64 rfl ?_
      obtain ⟨b65, e65, hf⟩ := ob hf
      refine ev_gR i_X0_findGood_65 fl_X0_17 rfl e65 ?_
      refine ev_iload_n i_X0_findGood_68 rfl ?_
      obtain ⟨v69, e69, hf⟩ := ob hf
      refine ev_aZ i_X0_findGood_69 e69 ?_
      refine ev_if_eq (tg := 97) i_X0_findGood_70 (by decide) (fun c70 => ?_) (fun c70 => ?_)
      · rw [if_pos c70] at hf
        refine ev_iinc (y := (x3 + (1 : Int32))) i_X0_findGood_97 rfl rfl (by decide) ?_
        refine ev_goto (tg := 58) i_X0_findGood_100 (by decide) ?_
        exact ih h (x3 + (1 : Int32)) _ hf
      · rw [if_neg c70] at hf
        refine ev_aload_n i_X0_findGood_73 rfl ?_
        obtain ⟨b74, e74, hf⟩ := ob hf
        refine ev_gR i_X0_findGood_74 fl_X0_11 rfl e74 ?_
        refine ev_iload_n i_X0_findGood_77 rfl ?_
        obtain ⟨b78, e78, hf⟩ := ob hf
        refine ev_aR i_X0_findGood_78 e78 ?_
        refine ev_iload_n i_X0_findGood_79 rfl ?_
        obtain ⟨v80, e80, hf⟩ := ob hf
        refine ev_cV_i i_X0_findGood_80 lk_X0_findGood_62 [.int x3] rfl rfl (by decide) (gK_of e80).1.1 (gK_of e80).1.2 (Nat.le_of_ble_eq_true rfl) (by decide) (e_X7_hasMark e80) ?_
        refine ev_if_eq (tg := 97) i_X0_findGood_83 (by decide) (fun c83 => ?_) (fun c83 => ?_)
        · rw [if_pos c83] at hf
          refine ev_iinc (y := (x3 + (1 : Int32))) i_X0_findGood_97 rfl rfl (by decide) ?_
          refine ev_goto (tg := 58) i_X0_findGood_100 (by decide) ?_
          exact ih h (x3 + (1 : Int32)) _ hf
        · rw [if_neg c83] at hf
          refine ev_aload_n i_X0_findGood_86 rfl ?_
          refine ev_aload_n i_X0_findGood_87 rfl ?_
          obtain ⟨b88, e88, hf⟩ := ob hf
          refine ev_gR i_X0_findGood_88 fl_X0_11 rfl e88 ?_
          refine ev_iload_n i_X0_findGood_91 rfl ?_
          obtain ⟨b92, e92, hf⟩ := ob hf
          refine ev_aR i_X0_findGood_92 e92 ?_
          refine ev_iload_n i_X0_findGood_93 rfl ?_
          obtain ⟨h94, e94, hf⟩ := ob hf
          refine ev_cV_v i_X0_findGood_94 lk_X0_findGood_97 [.ref b92, .int x3] rfl rfl (by decide) (gK_of e94).1.1 (gK_of e94).1.2 (Nat.le_of_ble_eq_true rfl) (by decide) (e_X0_strikeNotGood e94) ?_
          refine ev_iinc (y := (x3 + (1 : Int32))) i_X0_findGood_97 rfl rfl (by decide) ?_
          refine ev_goto (tg := 58) i_X0_findGood_100 (by decide) ?_
          exact ih h94 (x3 + (1 : Int32)) _ hf
def f_X0_findGood_L48 (k109 : MH → Option MH) (a0 : Nat) : Nat → MH → Int32 → Option MH
  | 0, _, _ => none
  | n + 1, h, x2 => (gI h a0 0 7).bind fun v50 => (if v50 ≤ x2 then (k109 h) else (f_X0_findGood_L58 (fun he103 => f_X0_findGood_L48 k109 a0 n he103 (x2 + (1 : Int32))) a0 x2 fuel h (0 : Int32)))
set_option maxRecDepth 20000 in
theorem l_X0_findGood_48 {G : GG} {k109 : MH → Option MH} {a0 : Nat} (hk109 : ∀ (hz : MH) (r : MH), k109 hz = some r → Ev G 5 M_X0_findGood 109 [some (.ref a0), none, none, none] [] hz none r) : ∀ (n : Nat) (h : MH) (x2 : Int32) (r : MH), f_X0_findGood_L48 k109 a0 n h x2 = some r → Ev G 5 M_X0_findGood 48 [some (.ref a0), none, some (.int x2), none] [] h none r := by
  intro n
  induction n with
  | zero => intro h x2 r hf; rw [f_X0_findGood_L48] at hf; cases hf
  | succ n ih =>
    intro h x2 r hf
    rw [f_X0_findGood_L48] at hf
    refine ev_iload_n i_X0_findGood_48 rfl ?_
    refine ev_aload_n i_X0_findGood_49 rfl ?_
    obtain ⟨v50, e50, hf⟩ := ob hf
    refine ev_gI i_X0_findGood_50 fl_X0_51 rfl e50 ?_
    refine ev_icmp_ge (tg := 109) i_X0_findGood_53 (by decide) (fun c53 => ?_) (fun c53 => ?_)
    · rw [if_pos c53] at hf
      refine ev_sub (lc2 := [some (.ref a0), none, none, none]) ⟨Or.inr rfl, Or.inr rfl, Or.inl rfl, Or.inr rfl, trivial⟩ ?_
      exact hk109 h _ hf
    · rw [if_neg c53] at hf
      refine ev_iconst i_X0_findGood_56 lt_i_0 ?_
      refine ev_istore_n i_X0_findGood_57 (by decide) ?_
      exact l_X0_findGood_58 (fun he103 r hf => by
        refine ev_iinc (y := (x2 + (1 : Int32))) i_X0_findGood_103 rfl rfl (by decide) ?_
        refine ev_goto (tg := 48) i_X0_findGood_106 (by decide) ?_
        exact ih he103 (x2 + (1 : Int32)) _ hf) fuel h (0 : Int32) _ hf
def f_X0_findGood (h : MH) (a0 : Nat) : Option MH := gK h a0 0 ((gI h a0 0 9).bind fun v1 => (if v1 = 0 then ((f_X0_findKept h a0).bind fun h9 => (gR h9 a0 0 0).bind fun b13 => (f_X1_unlike h9 b13).bind fun v16 => f_X0_findGood_L22 (fun he46 => f_X0_findGood_L48 (fun he109 => (pZ he109 a0 0 9 (1 : Int32)).bind fun h111 => some h111) a0 fuel he46 (0 : Int32)) a0 v16 fuel h9 (0 : Int32)) else (some h)))
set_option maxRecDepth 20000 in
theorem e_X0_findGood {G : GG} {h : MH} {a0 : Nat} {r : MH} (hf : f_X0_findGood h a0 = some r) : Ev G 5 M_X0_findGood 0 (ent M_X0_findGood [.ref a0]) [] h none r := by
  unfold f_X0_findGood at hf
  show Ev G 5 M_X0_findGood 0 [some (.ref a0), none, none, none] [] h none r
  obtain ⟨-, hf⟩ := gK_of hf
  refine ev_aload_n i_X0_findGood_0 rfl ?_
  obtain ⟨v1, e1, hf⟩ := ob hf
  refine ev_gI i_X0_findGood_1 fl_X0_48 rfl e1 ?_
  refine ev_if_eq (tg := 8) i_X0_findGood_4 (by decide) (fun c4 => ?_) (fun c4 => ?_)
  · rw [if_pos c4] at hf
    refine ev_aload_n i_X0_findGood_8 rfl ?_
    obtain ⟨h9, e9, hf⟩ := ob hf
    refine ev_cV_v i_X0_findGood_9 lk_X0_findGood_82 [] rfl rfl (by decide) (gK_of e9).1.1 (gK_of e9).1.2 (Nat.le_of_ble_eq_true rfl) (by decide) (e_X0_findKept e9) ?_
    refine ev_aload_n i_X0_findGood_12 rfl ?_
    obtain ⟨b13, e13, hf⟩ := ob hf
    refine ev_gR i_X0_findGood_13 fl_X0_37 rfl e13 ?_
    obtain ⟨v16, e16, hf⟩ := ob hf
    refine ev_cV_i i_X0_findGood_16 lk_X0_findGood_89 [] rfl rfl (by decide) (gK_of e16).1.1 (gK_of e16).1.2 (Nat.le_of_ble_eq_true rfl) (by decide) (e_X1_unlike e16) ?_
    refine ev_istore_n i_X0_findGood_19 (by decide) ?_
    refine ev_iconst i_X0_findGood_20 lt_i_0 ?_
    refine ev_istore_n i_X0_findGood_21 (by decide) ?_
    exact l_X0_findGood_22 (fun he46 r hf => by
      refine ev_iconst i_X0_findGood_46 lt_i_0 ?_
      refine ev_istore_n i_X0_findGood_47 (by decide) ?_
      exact l_X0_findGood_48 (fun he109 r hf => by
        refine ev_aload_n i_X0_findGood_109 rfl ?_
        refine ev_iconst i_X0_findGood_110 lt_i_1 ?_
        obtain ⟨h111, e111, hf⟩ := ob hf
        refine ev_pZ i_X0_findGood_111 fp_X0_findGood_48 rfl e111 ?_
        cases hf
        exact ev_vret i_X0_findGood_114 rfl) fuel he46 (0 : Int32) _ hf) fuel h9 (0 : Int32) _ hf
  · rw [if_neg c4] at hf
    cases hf
    exact ev_vret i_X0_findGood_7 rfl
def f_X0_isGood (h : MH) (a0 : Nat) (x1 : Int32) : Option Int32 := gK h a0 0 ((if x1 < 0 then (some (0 : Int32)) else ((if (128 : Int32) ≤ x1 then (some (0 : Int32)) else ((gR h a0 0 3).bind fun b12 => (aZ h b12 x1).bind fun v16 => (if v16 = 0 then (some (0 : Int32)) else (some (1 : Int32))))))))
set_option maxRecDepth 20000 in
theorem e_X0_isGood {G : GG} {h : MH} {a0 : Nat} {x1 : Int32} {r : Int32} (hf : f_X0_isGood h a0 x1 = some r) : Ev G 0 M_X0_isGood 0 (ent M_X0_isGood [.ref a0, .int x1]) [] h (some (.int r)) h := by
  unfold f_X0_isGood at hf
  show Ev G 0 M_X0_isGood 0 [some (.ref a0), some (.int x1)] [] h (some (.int r)) h
  obtain ⟨-, hf⟩ := gK_of hf
  refine ev_iload_n i_X0_isGood_0 rfl ?_
  refine ev_if_lt (tg := 24) i_X0_isGood_1 (by decide) (fun c1 => ?_) (fun c1 => ?_)
  · rw [if_pos c1] at hf
    refine ev_iconst i_X0_isGood_24 lt_i_0 ?_
    cases hf
    exact ev_zret i_X0_isGood_25 rfl (by decide)
  · rw [if_neg c1] at hf
    refine ev_iload_n i_X0_isGood_4 rfl ?_
    refine ev_sipush i_X0_isGood_5 lt_s_128 ?_
    refine ev_icmp_ge (tg := 24) i_X0_isGood_8 (by decide) (fun c8 => ?_) (fun c8 => ?_)
    · rw [if_pos c8] at hf
      refine ev_iconst i_X0_isGood_24 lt_i_0 ?_
      cases hf
      exact ev_zret i_X0_isGood_25 rfl (by decide)
    · rw [if_neg c8] at hf
      refine ev_aload_n i_X0_isGood_11 rfl ?_
      obtain ⟨b12, e12, hf⟩ := ob hf
      refine ev_gR i_X0_isGood_12 fl_X0_21 rfl e12 ?_
      refine ev_iload_n i_X0_isGood_15 rfl ?_
      obtain ⟨v16, e16, hf⟩ := ob hf
      refine ev_aZ i_X0_isGood_16 e16 ?_
      refine ev_if_eq (tg := 24) i_X0_isGood_17 (by decide) (fun c17 => ?_) (fun c17 => ?_)
      · rw [if_pos c17] at hf
        refine ev_iconst i_X0_isGood_24 lt_i_0 ?_
        cases hf
        exact ev_zret i_X0_isGood_25 rfl (by decide)
      · rw [if_neg c17] at hf
        refine ev_iconst i_X0_isGood_20 lt_i_1 ?_
        refine ev_goto (tg := 25) i_X0_isGood_21 (by decide) ?_
        cases hf
        exact ev_zret i_X0_isGood_25 rfl (by decide)
def f_X4_init (h : MH) (a0 : Nat) (a1 : Nat) (a2 : Nat) : Option MH := (pR (mm_na h 11 128) a0 4 2 (mm_N h)).bind fun h10 => (pR (mm_na h10 11 128) a0 4 3 (mm_N h10)).bind fun h19 => (pR h19 a0 4 0 a1).bind fun h24 => (pR h24 a0 4 1 a2).bind fun h29 => some h29
set_option maxRecDepth 20000 in
theorem e_X4_init {G : GG} {h : MH} {a0 : Nat} {a1 : Nat} {a2 : Nat} {r : MH} (hf : f_X4_init h a0 a1 a2 = some r) : Ev G 1 M_X4_init 0 (ent M_X4_init [.ref a0, .ref a1, .ref a2]) [] h none r := by
  unfold f_X4_init at hf
  show Ev G 1 M_X4_init 0 [some (.ref a0), some (.ref a1), some (.ref a2)] [] h none r
  refine ev_aload_n i_X4_init_0 rfl ?_
  refine ev_objI i_X4_init_1 ml_X4_3 go_1 go_2 (Nat.le_of_ble_eq_true rfl) (by decide) ?_
  refine ev_aload_n i_X4_init_4 rfl ?_
  refine ev_sipush i_X4_init_5 lt_s_128 ?_
  refine ev_nA (kd := 11) i_X4_init_8 (Or.inl ⟨rfl, rfl⟩) ga_i (by decide) (by decide : _ = 128) (by decide) ?_
  obtain ⟨h10, e10, hf⟩ := ob hf
  refine ev_pR i_X4_init_10 fp_X4_init_9 rfl e10 ?_
  refine ev_aload_n i_X4_init_13 rfl ?_
  refine ev_sipush i_X4_init_14 lt_s_128 ?_
  refine ev_nA (kd := 11) i_X4_init_17 (Or.inl ⟨rfl, rfl⟩) ga_i (by decide) (by decide : _ = 128) (by decide) ?_
  obtain ⟨h19, e19, hf⟩ := ob hf
  refine ev_pR i_X4_init_19 fp_X4_init_15 rfl e19 ?_
  refine ev_aload_n i_X4_init_22 rfl ?_
  refine ev_aload_n i_X4_init_23 rfl ?_
  obtain ⟨h24, e24, hf⟩ := ob hf
  refine ev_pR i_X4_init_24 fp_X4_init_18 rfl e24 ?_
  refine ev_aload_n i_X4_init_27 rfl ?_
  refine ev_aload_n i_X4_init_28 rfl ?_
  obtain ⟨h29, e29, hf⟩ := ob hf
  refine ev_pR i_X4_init_29 fp_X4_init_22 rfl e29 ?_
  cases hf
  exact ev_vret i_X4_init_32 rfl
def f_X4_countGood_L11 (k38 : Int32 → Option (Int32 × MH)) (h : MH) (a0 : Nat) : Nat → Int32 → Int32 → Option (Int32 × MH)
  | 0, _, _ => none
  | n + 1, x1, x2 => (if (128 : Int32) ≤ x2 then (k38 x1) else ((gR h a0 4 1).bind fun b19 => (f_X0_isGood h b19 x2).bind fun v23 => (if v23 = 0 then (f_X4_countGood_L11 k38 h a0 n x1 (x2 + (1 : Int32))) else (f_X4_countGood_L11 k38 h a0 n (x1 + (1 : Int32)) (x2 + (1 : Int32))))))
set_option maxRecDepth 20000 in
theorem l_X4_countGood_11 {G : GG} {k38 : Int32 → Option (Int32 × MH)} {h : MH} {a0 : Nat} (hk38 : ∀ (x1z : Int32) (r : (Int32 × MH)), k38 x1z = some r → Ev G 6 M_X4_countGood 38 [none, some (.int x1z), none] [] h (some (.int r.1)) r.2) : ∀ (n : Nat) (x1 : Int32) (x2 : Int32) (r : (Int32 × MH)), f_X4_countGood_L11 k38 h a0 n x1 x2 = some r → Ev G 6 M_X4_countGood 11 [some (.ref a0), some (.int x1), some (.int x2)] [] h (some (.int r.1)) r.2 := by
  intro n
  induction n with
  | zero => intro x1 x2 r hf; rw [f_X4_countGood_L11] at hf; cases hf
  | succ n ih =>
    intro x1 x2 r hf
    rw [f_X4_countGood_L11] at hf
    refine ev_iload_n i_X4_countGood_11 rfl ?_
    refine ev_sipush i_X4_countGood_12 lt_s_128 ?_
    refine ev_icmp_ge (tg := 38) i_X4_countGood_15 (by decide) (fun c15 => ?_) (fun c15 => ?_)
    · rw [if_pos c15] at hf
      refine ev_sub (lc2 := [none, some (.int x1), none]) ⟨Or.inl rfl, Or.inr rfl, Or.inl rfl, trivial⟩ ?_
      exact hk38 x1 _ hf
    · rw [if_neg c15] at hf
      refine ev_aload_n i_X4_countGood_18 rfl ?_
      obtain ⟨b19, e19, hf⟩ := ob hf
      refine ev_gR i_X4_countGood_19 fl_X4_22 rfl e19 ?_
      refine ev_iload_n i_X4_countGood_22 rfl ?_
      obtain ⟨v23, e23, hf⟩ := ob hf
      refine ev_cV_i i_X4_countGood_23 lk_X4_countGood_31 [.int x2] rfl rfl (by decide) (gK_of e23).1.1 (gK_of e23).1.2 (Nat.le_of_ble_eq_true rfl) (by decide) (e_X0_isGood e23) ?_
      refine ev_if_eq (tg := 32) i_X4_countGood_26 (by decide) (fun c26 => ?_) (fun c26 => ?_)
      · rw [if_pos c26] at hf
        refine ev_iinc (y := (x2 + (1 : Int32))) i_X4_countGood_32 rfl rfl (by decide) ?_
        refine ev_goto (tg := 11) i_X4_countGood_35 (by decide) ?_
        exact ih x1 (x2 + (1 : Int32)) _ hf
      · rw [if_neg c26] at hf
        refine ev_iinc (y := (x1 + (1 : Int32))) i_X4_countGood_29 rfl rfl (by decide) ?_
        refine ev_iinc (y := (x2 + (1 : Int32))) i_X4_countGood_32 rfl rfl (by decide) ?_
        refine ev_goto (tg := 11) i_X4_countGood_35 (by decide) ?_
        exact ih (x1 + (1 : Int32)) (x2 + (1 : Int32)) _ hf
def f_X4_countGood (h : MH) (a0 : Nat) : Option (Int32 × MH) := gK h a0 4 ((gR h a0 4 1).bind fun b1 => (f_X0_findGood h b1).bind fun h4 => f_X4_countGood_L11 (fun x1e38 => some (x1e38, h4)) h4 a0 fuel (0 : Int32) (0 : Int32))
set_option maxRecDepth 20000 in
theorem e_X4_countGood {G : GG} {h : MH} {a0 : Nat} {r : (Int32 × MH)} (hf : f_X4_countGood h a0 = some r) : Ev G 6 M_X4_countGood 0 (ent M_X4_countGood [.ref a0]) [] h (some (.int r.1)) r.2 := by
  unfold f_X4_countGood at hf
  show Ev G 6 M_X4_countGood 0 [some (.ref a0), none, none] [] h (some (.int r.1)) r.2
  obtain ⟨-, hf⟩ := gK_of hf
  refine ev_aload_n i_X4_countGood_0 rfl ?_
  obtain ⟨b1, e1, hf⟩ := ob hf
  refine ev_gR i_X4_countGood_1 fl_X4_22 rfl e1 ?_
  obtain ⟨h4, e4, hf⟩ := ob hf
  refine ev_cV_v i_X4_countGood_4 lk_X4_countGood_26 [] rfl rfl (by decide) (gK_of e4).1.1 (gK_of e4).1.2 (Nat.le_of_ble_eq_true rfl) (by decide) (e_X0_findGood e4) ?_
  refine ev_iconst i_X4_countGood_7 lt_i_0 ?_
  refine ev_istore_n i_X4_countGood_8 (by decide) ?_
  refine ev_iconst i_X4_countGood_9 lt_i_0 ?_
  refine ev_istore_n i_X4_countGood_10 (by decide) ?_
  exact l_X4_countGood_11 (fun x1e38 r hf => by
    refine ev_iload_n i_X4_countGood_38 rfl ?_
    cases hf
    exact ev_iiret i_X4_countGood_39 rfl) fuel (0 : Int32) (0 : Int32) _ hf
def f_X4_leastNotGood_L2 (k45 : Option Int32) (h : MH) (a0 : Nat) (x1 : Int32) (x2 : Int32) : Nat → Int32 → Option Int32
  | 0, _ => none
  | n + 1, x3 => (if x2 < x3 then (k45 ) else ((if (128 : Int32) ≤ x3 then (k45 ) else ((f_X9_isWithin h x3 x2).bind fun v16 => (if v16 = 0 then (f_X4_leastNotGood_L2 k45 h a0 x1 x2 n (x3 + (1 : Int32))) else ((gR h a0 4 1).bind fun b23 => (f_X0_isGood h b23 (x1 ||| x3)).bind fun v29 => (if v29 = 0 then (some (x1 ||| x3)) else (f_X4_leastNotGood_L2 k45 h a0 x1 x2 n (x3 + (1 : Int32))))))))))
set_option maxRecDepth 20000 in
theorem l_X4_leastNotGood_2 {G : GG} {k45 : Option Int32} {h : MH} {a0 : Nat} {x1 : Int32} {x2 : Int32} (hk45 : ∀  (r : Int32), k45  = some r → Ev G 1 M_X4_leastNotGood 45 [none, none, none, none] [] h (some (.int r)) h) : ∀ (n : Nat) (x3 : Int32) (r : Int32), f_X4_leastNotGood_L2 k45 h a0 x1 x2 n x3 = some r → Ev G 1 M_X4_leastNotGood 2 [some (.ref a0), some (.int x1), some (.int x2), some (.int x3)] [] h (some (.int r)) h := by
  intro n
  induction n with
  | zero => intro x3 r hf; rw [f_X4_leastNotGood_L2] at hf; cases hf
  | succ n ih =>
    intro x3 r hf
    rw [f_X4_leastNotGood_L2] at hf
    refine ev_iload_n i_X4_leastNotGood_2 rfl ?_
    refine ev_iload_n i_X4_leastNotGood_3 rfl ?_
    refine ev_icmp_gt (tg := 45) i_X4_leastNotGood_4 (by decide) (fun c4 => ?_) (fun c4 => ?_)
    · rw [if_pos c4] at hf
      refine ev_sub (lc2 := [none, none, none, none]) ⟨Or.inl rfl, Or.inl rfl, Or.inl rfl, Or.inl rfl, trivial⟩ ?_
      exact hk45  _ hf
    · rw [if_neg c4] at hf
      refine ev_iload_n i_X4_leastNotGood_7 rfl ?_
      refine ev_sipush i_X4_leastNotGood_8 lt_s_128 ?_
      refine ev_icmp_ge (tg := 45) i_X4_leastNotGood_11 (by decide) (fun c11 => ?_) (fun c11 => ?_)
      · rw [if_pos c11] at hf
        refine ev_sub (lc2 := [none, none, none, none]) ⟨Or.inl rfl, Or.inl rfl, Or.inl rfl, Or.inl rfl, trivial⟩ ?_
        exact hk45  _ hf
      · rw [if_neg c11] at hf
        refine ev_iload_n i_X4_leastNotGood_14 rfl ?_
        refine ev_iload_n i_X4_leastNotGood_15 rfl ?_
        obtain ⟨v16, e16, hf⟩ := ob hf
        refine ev_cS_i i_X4_leastNotGood_16 lk_X4_leastNotGood_45 [.int x3, .int x2] rfl rfl (by decide) (Nat.le_of_ble_eq_true rfl) (by decide) (e_X9_isWithin e16) ?_
        refine ev_if_eq (tg := 39) i_X4_leastNotGood_19 (by decide) (fun c19 => ?_) (fun c19 => ?_)
        · rw [if_pos c19] at hf
          refine ev_iinc (y := (x3 + (1 : Int32))) i_X4_leastNotGood_39 rfl rfl (by decide) ?_
          refine ev_goto (tg := 2) i_X4_leastNotGood_42 (by decide) ?_
          exact ih (x3 + (1 : Int32)) _ hf
        · rw [if_neg c19] at hf
          refine ev_aload_n i_X4_leastNotGood_22 rfl ?_
          obtain ⟨b23, e23, hf⟩ := ob hf
          refine ev_gR i_X4_leastNotGood_23 fl_X4_22 rfl e23 ?_
          refine ev_iload_n i_X4_leastNotGood_26 rfl ?_
          refine ev_iload_n i_X4_leastNotGood_27 rfl ?_
          refine ev_ior i_X4_leastNotGood_28 ?_
          obtain ⟨v29, e29, hf⟩ := ob hf
          refine ev_cV_i i_X4_leastNotGood_29 lk_X4_leastNotGood_31 [.int (x1 ||| x3)] rfl rfl (by decide) (gK_of e29).1.1 (gK_of e29).1.2 (Nat.le_of_ble_eq_true rfl) (by decide) (e_X0_isGood e29) ?_
          refine ev_if_ne (tg := 39) i_X4_leastNotGood_32 (by decide) (fun c32 => ?_) (fun c32 => ?_)
          · rw [if_neg c32] at hf
            refine ev_iinc (y := (x3 + (1 : Int32))) i_X4_leastNotGood_39 rfl rfl (by decide) ?_
            refine ev_goto (tg := 2) i_X4_leastNotGood_42 (by decide) ?_
            exact ih (x3 + (1 : Int32)) _ hf
          · rw [if_pos c32] at hf
            refine ev_iload_n i_X4_leastNotGood_35 rfl ?_
            refine ev_iload_n i_X4_leastNotGood_36 rfl ?_
            refine ev_ior i_X4_leastNotGood_37 ?_
            cases hf
            exact ev_iiret i_X4_leastNotGood_38 rfl
def f_X4_leastNotGood (h : MH) (a0 : Nat) (x1 : Int32) (x2 : Int32) : Option Int32 := gK h a0 4 (f_X4_leastNotGood_L2 (some (-1 : Int32)) h a0 x1 x2 fuel (0 : Int32))
set_option maxRecDepth 20000 in
theorem e_X4_leastNotGood {G : GG} {h : MH} {a0 : Nat} {x1 : Int32} {x2 : Int32} {r : Int32} (hf : f_X4_leastNotGood h a0 x1 x2 = some r) : Ev G 1 M_X4_leastNotGood 0 (ent M_X4_leastNotGood [.ref a0, .int x1, .int x2]) [] h (some (.int r)) h := by
  unfold f_X4_leastNotGood at hf
  show Ev G 1 M_X4_leastNotGood 0 [some (.ref a0), some (.int x1), some (.int x2), none] [] h (some (.int r)) h
  obtain ⟨-, hf⟩ := gK_of hf
  refine ev_iconst i_X4_leastNotGood_0 lt_i_0 ?_
  refine ev_istore_n i_X4_leastNotGood_1 (by decide) ?_
  exact l_X4_leastNotGood_2 (fun  r hf => by
    refine ev_iconst i_X4_leastNotGood_45 lt_i_m1 ?_
    cases hf
    exact ev_iiret i_X4_leastNotGood_46 rfl) fuel (0 : Int32) _ hf
def f_X4_whyNotTaken (h : MH) (a0 : Nat) (x1 : Int32) (x2 : Int32) : Option (Int32 × MH) := gK h a0 4 ((gR h a0 4 1).bind fun b1 => (f_X0_findGood h b1).bind fun h4 => (f_X4_leastNotGood h4 a0 x1 x2).bind fun v10 => some (v10, h4))
set_option maxRecDepth 20000 in
theorem e_X4_whyNotTaken {G : GG} {h : MH} {a0 : Nat} {x1 : Int32} {x2 : Int32} {r : (Int32 × MH)} (hf : f_X4_whyNotTaken h a0 x1 x2 = some r) : Ev G 6 M_X4_whyNotTaken 0 (ent M_X4_whyNotTaken [.ref a0, .int x1, .int x2]) [] h (some (.int r.1)) r.2 := by
  unfold f_X4_whyNotTaken at hf
  show Ev G 6 M_X4_whyNotTaken 0 [some (.ref a0), some (.int x1), some (.int x2)] [] h (some (.int r.1)) r.2
  obtain ⟨-, hf⟩ := gK_of hf
  refine ev_aload_n i_X4_whyNotTaken_0 rfl ?_
  obtain ⟨b1, e1, hf⟩ := ob hf
  refine ev_gR i_X4_whyNotTaken_1 fl_X4_22 rfl e1 ?_
  obtain ⟨h4, e4, hf⟩ := ob hf
  refine ev_cV_v i_X4_whyNotTaken_4 lk_X4_whyNotTaken_26 [] rfl rfl (by decide) (gK_of e4).1.1 (gK_of e4).1.2 (Nat.le_of_ble_eq_true rfl) (by decide) (e_X0_findGood e4) ?_
  refine ev_aload_n i_X4_whyNotTaken_7 rfl ?_
  refine ev_iload_n i_X4_whyNotTaken_8 rfl ?_
  refine ev_iload_n i_X4_whyNotTaken_9 rfl ?_
  obtain ⟨v10, e10, hf⟩ := ob hf
  refine ev_cV_i i_X4_whyNotTaken_10 lk_X4_whyNotTaken_35 [.int x1, .int x2] rfl rfl (by decide) (gK_of e10).1.1 (gK_of e10).1.2 (Nat.le_of_ble_eq_true rfl) (by decide) (e_X4_leastNotGood e10) ?_
  cases hf
  exact ev_iiret i_X4_whyNotTaken_13 rfl
def f_X4_fewestFrom_L14 (k85 : Int32 → Option Int32) (h : MH) (a0 : Nat) (x1 : Int32) (x2 : Int32) : Nat → Int32 → Int32 → Option Int32
  | 0, _, _ => none
  | n + 1, x3, x4 => (if x2 < x4 then (k85 x3) else ((if (128 : Int32) ≤ x4 then (k85 x3) else ((f_X9_isWithin h x4 (x2 &&& (x1 ^^^ (-1 : Int32)))).bind fun v35 => (if v35 = 0 then (f_X4_fewestFrom_L14 k85 h a0 x1 x2 n x3 (x4 + (1 : Int32))) else ((gR h a0 4 2).bind fun b42 => (aI h b42 (x1 ||| x4)).bind fun v49 => (if x3 ≤ (v49 + (1 : Int32)) then (f_X4_fewestFrom_L14 k85 h a0 x1 x2 n x3 (x4 + (1 : Int32))) else ((f_X4_leastNotGood h a0 x1 x4).bind fun v60 => (if v60 = (-1 : Int32) then ((gR h a0 4 2).bind fun b68 => (aI h b68 (x1 ||| x4)).bind fun v75 => f_X4_fewestFrom_L14 k85 h a0 x1 x2 n (v75 + (1 : Int32)) (x4 + (1 : Int32))) else (f_X4_fewestFrom_L14 k85 h a0 x1 x2 n x3 (x4 + (1 : Int32))))))))))))
set_option maxRecDepth 20000 in
theorem l_X4_fewestFrom_14 {G : GG} {k85 : Int32 → Option Int32} {h : MH} {a0 : Nat} {x1 : Int32} {x2 : Int32} (hk85 : ∀ (x3z : Int32) (r : Int32), k85 x3z = some r → Ev G 2 M_X4_fewestFrom 85 [none, none, none, some (.int x3z), none] [] h (some (.int r)) h) : ∀ (n : Nat) (x3 : Int32) (x4 : Int32) (r : Int32), f_X4_fewestFrom_L14 k85 h a0 x1 x2 n x3 x4 = some r → Ev G 2 M_X4_fewestFrom 14 [some (.ref a0), some (.int x1), some (.int x2), some (.int x3), some (.int x4)] [] h (some (.int r)) h := by
  intro n
  induction n with
  | zero => intro x3 x4 r hf; rw [f_X4_fewestFrom_L14] at hf; cases hf
  | succ n ih =>
    intro x3 x4 r hf
    rw [f_X4_fewestFrom_L14] at hf
    refine ev_iload i_X4_fewestFrom_14 rfl ?_
    refine ev_iload_n i_X4_fewestFrom_16 rfl ?_
    refine ev_icmp_gt (tg := 85) i_X4_fewestFrom_17 (by decide) (fun c17 => ?_) (fun c17 => ?_)
    · rw [if_pos c17] at hf
      refine ev_sub (lc2 := [none, none, none, some (.int x3), none]) ⟨Or.inl rfl, Or.inl rfl, Or.inl rfl, Or.inr rfl, Or.inl rfl, trivial⟩ ?_
      exact hk85 x3 _ hf
    · rw [if_neg c17] at hf
      refine ev_iload i_X4_fewestFrom_20 rfl ?_
      refine ev_sipush i_X4_fewestFrom_22 lt_s_128 ?_
      refine ev_icmp_ge (tg := 85) i_X4_fewestFrom_25 (by decide) (fun c25 => ?_) (fun c25 => ?_)
      · rw [if_pos c25] at hf
        refine ev_sub (lc2 := [none, none, none, some (.int x3), none]) ⟨Or.inl rfl, Or.inl rfl, Or.inl rfl, Or.inr rfl, Or.inl rfl, trivial⟩ ?_
        exact hk85 x3 _ hf
      · rw [if_neg c25] at hf
        refine ev_iload i_X4_fewestFrom_28 rfl ?_
        refine ev_iload_n i_X4_fewestFrom_30 rfl ?_
        refine ev_iload_n i_X4_fewestFrom_31 rfl ?_
        refine ev_iconst i_X4_fewestFrom_32 lt_i_m1 ?_
        refine ev_ixor i_X4_fewestFrom_33 ?_
        refine ev_iand i_X4_fewestFrom_34 ?_
        obtain ⟨v35, e35, hf⟩ := ob hf
        refine ev_cS_i i_X4_fewestFrom_35 lk_X4_fewestFrom_45 [.int x4, .int (x2 &&& (x1 ^^^ (-1 : Int32)))] rfl rfl (by decide) (Nat.le_of_ble_eq_true rfl) (by decide) (e_X9_isWithin e35) ?_
        refine ev_if_eq (tg := 79) i_X4_fewestFrom_38 (by decide) (fun c38 => ?_) (fun c38 => ?_)
        · rw [if_pos c38] at hf
          refine ev_iinc (y := (x4 + (1 : Int32))) i_X4_fewestFrom_79 rfl rfl (by decide) ?_
          refine ev_goto (tg := 14) i_X4_fewestFrom_82 (by decide) ?_
          exact ih x3 (x4 + (1 : Int32)) _ hf
        · rw [if_neg c38] at hf
          refine ev_aload_n i_X4_fewestFrom_41 rfl ?_
          obtain ⟨b42, e42, hf⟩ := ob hf
          refine ev_gR i_X4_fewestFrom_42 fl_X4_9 rfl e42 ?_
          refine ev_iload_n i_X4_fewestFrom_45 rfl ?_
          refine ev_iload i_X4_fewestFrom_46 rfl ?_
          refine ev_ior i_X4_fewestFrom_48 ?_
          obtain ⟨v49, e49, hf⟩ := ob hf
          refine ev_aI i_X4_fewestFrom_49 e49 ?_
          refine ev_iconst i_X4_fewestFrom_50 lt_i_1 ?_
          refine ev_iadd i_X4_fewestFrom_51 ?_
          refine ev_iload_n i_X4_fewestFrom_52 rfl ?_
          refine ev_icmp_ge (tg := 79) i_X4_fewestFrom_53 (by decide) (fun c53 => ?_) (fun c53 => ?_)
          · rw [if_pos c53] at hf
            refine ev_iinc (y := (x4 + (1 : Int32))) i_X4_fewestFrom_79 rfl rfl (by decide) ?_
            refine ev_goto (tg := 14) i_X4_fewestFrom_82 (by decide) ?_
            exact ih x3 (x4 + (1 : Int32)) _ hf
          · rw [if_neg c53] at hf
            refine ev_aload_n i_X4_fewestFrom_56 rfl ?_
            refine ev_iload_n i_X4_fewestFrom_57 rfl ?_
            refine ev_iload i_X4_fewestFrom_58 rfl ?_
            obtain ⟨v60, e60, hf⟩ := ob hf
            refine ev_cV_i i_X4_fewestFrom_60 lk_X4_fewestFrom_35 [.int x1, .int x4] rfl rfl (by decide) (gK_of e60).1.1 (gK_of e60).1.2 (Nat.le_of_ble_eq_true rfl) (by decide) (e_X4_leastNotGood e60) ?_
            refine ev_iconst i_X4_fewestFrom_63 lt_i_m1 ?_
            refine ev_icmp_ne (tg := 79) i_X4_fewestFrom_64 (by decide) (fun c64 => ?_) (fun c64 => ?_)
            · rw [if_neg c64] at hf
              refine ev_iinc (y := (x4 + (1 : Int32))) i_X4_fewestFrom_79 rfl rfl (by decide) ?_
              refine ev_goto (tg := 14) i_X4_fewestFrom_82 (by decide) ?_
              exact ih x3 (x4 + (1 : Int32)) _ hf
            · rw [if_pos c64] at hf
              refine ev_aload_n i_X4_fewestFrom_67 rfl ?_
              obtain ⟨b68, e68, hf⟩ := ob hf
              refine ev_gR i_X4_fewestFrom_68 fl_X4_9 rfl e68 ?_
              refine ev_iload_n i_X4_fewestFrom_71 rfl ?_
              refine ev_iload i_X4_fewestFrom_72 rfl ?_
              refine ev_ior i_X4_fewestFrom_74 ?_
              obtain ⟨v75, e75, hf⟩ := ob hf
              refine ev_aI i_X4_fewestFrom_75 e75 ?_
              refine ev_iconst i_X4_fewestFrom_76 lt_i_1 ?_
              refine ev_iadd i_X4_fewestFrom_77 ?_
              refine ev_istore_n i_X4_fewestFrom_78 (by decide) ?_
              refine ev_iinc (y := (x4 + (1 : Int32))) i_X4_fewestFrom_79 rfl rfl (by decide) ?_
              refine ev_goto (tg := 14) i_X4_fewestFrom_82 (by decide) ?_
              exact ih (v75 + (1 : Int32)) (x4 + (1 : Int32)) _ hf
def f_X4_fewestFrom (h : MH) (a0 : Nat) (x1 : Int32) (x2 : Int32) : Option Int32 := gK h a0 4 ((if x1 = x2 then (some (0 : Int32)) else (f_X4_fewestFrom_L14 (fun x3e85 => some x3e85) h a0 x1 x2 fuel (1000 : Int32) (1 : Int32))))
set_option maxRecDepth 20000 in
theorem e_X4_fewestFrom {G : GG} {h : MH} {a0 : Nat} {x1 : Int32} {x2 : Int32} {r : Int32} (hf : f_X4_fewestFrom h a0 x1 x2 = some r) : Ev G 2 M_X4_fewestFrom 0 (ent M_X4_fewestFrom [.ref a0, .int x1, .int x2]) [] h (some (.int r)) h := by
  unfold f_X4_fewestFrom at hf
  show Ev G 2 M_X4_fewestFrom 0 [some (.ref a0), some (.int x1), some (.int x2), none, none] [] h (some (.int r)) h
  obtain ⟨-, hf⟩ := gK_of hf
  refine ev_iload_n i_X4_fewestFrom_0 rfl ?_
  refine ev_iload_n i_X4_fewestFrom_1 rfl ?_
  refine ev_icmp_ne (tg := 7) i_X4_fewestFrom_2 (by decide) (fun c2 => ?_) (fun c2 => ?_)
  · rw [if_neg c2] at hf
    refine ev_sipush i_X4_fewestFrom_7 lt_s_1000 ?_
    refine ev_istore_n i_X4_fewestFrom_10 (by decide) ?_
    refine ev_iconst i_X4_fewestFrom_11 lt_i_1 ?_
    refine ev_istore i_X4_fewestFrom_12 (by decide) ?_
    exact l_X4_fewestFrom_14 (fun x3e85 r hf => by
      refine ev_iload_n i_X4_fewestFrom_85 rfl ?_
      cases hf
      exact ev_iiret i_X4_fewestFrom_86 rfl) fuel (1000 : Int32) (1 : Int32) _ hf
  · rw [if_pos c2] at hf
    refine ev_iconst i_X4_fewestFrom_5 lt_i_0 ?_
    cases hf
    exact ev_iiret i_X4_fewestFrom_6 rfl
def f_X4_leastRound_L2 (k63 : Option Int32) (h : MH) (a0 : Nat) (x1 : Int32) (x2 : Int32) : Nat → Int32 → Option Int32
  | 0, _ => none
  | n + 1, x3 => (if x2 < x3 then (k63 ) else ((if (128 : Int32) ≤ x3 then (k63 ) else ((f_X9_isWithin h x3 (x2 &&& (x1 ^^^ (-1 : Int32)))).bind fun v20 => (if v20 = 0 then (f_X4_leastRound_L2 k63 h a0 x1 x2 n (x3 + (1 : Int32))) else ((gR h a0 4 2).bind fun b27 => (aI h b27 (x1 ||| x3)).bind fun v33 => (gR h a0 4 2).bind fun b37 => (aI h b37 x1).bind fun v41 => (if (v33 + (1 : Int32)) = v41 then ((f_X4_leastNotGood h a0 x1 x3).bind fun v48 => (if v48 = (-1 : Int32) then (some x3) else (f_X4_leastRound_L2 k63 h a0 x1 x2 n (x3 + (1 : Int32))))) else (f_X4_leastRound_L2 k63 h a0 x1 x2 n (x3 + (1 : Int32))))))))))
set_option maxRecDepth 20000 in
theorem l_X4_leastRound_2 {G : GG} {k63 : Option Int32} {h : MH} {a0 : Nat} {x1 : Int32} {x2 : Int32} (hk63 : ∀  (r : Int32), k63  = some r → Ev G 2 M_X4_leastRound 63 [none, some (.int x1), some (.int x2), none] [] h (some (.int r)) h) : ∀ (n : Nat) (x3 : Int32) (r : Int32), f_X4_leastRound_L2 k63 h a0 x1 x2 n x3 = some r → Ev G 2 M_X4_leastRound 2 [some (.ref a0), some (.int x1), some (.int x2), some (.int x3)] [] h (some (.int r)) h := by
  intro n
  induction n with
  | zero => intro x3 r hf; rw [f_X4_leastRound_L2] at hf; cases hf
  | succ n ih =>
    intro x3 r hf
    rw [f_X4_leastRound_L2] at hf
    refine ev_iload_n i_X4_leastRound_2 rfl ?_
    refine ev_iload_n i_X4_leastRound_3 rfl ?_
    refine ev_icmp_gt (tg := 63) i_X4_leastRound_4 (by decide) (fun c4 => ?_) (fun c4 => ?_)
    · rw [if_pos c4] at hf
      refine ev_sub (lc2 := [none, some (.int x1), some (.int x2), none]) ⟨Or.inl rfl, Or.inr rfl, Or.inr rfl, Or.inl rfl, trivial⟩ ?_
      exact hk63  _ hf
    · rw [if_neg c4] at hf
      refine ev_iload_n i_X4_leastRound_7 rfl ?_
      refine ev_sipush i_X4_leastRound_8 lt_s_128 ?_
      refine ev_icmp_ge (tg := 63) i_X4_leastRound_11 (by decide) (fun c11 => ?_) (fun c11 => ?_)
      · rw [if_pos c11] at hf
        refine ev_sub (lc2 := [none, some (.int x1), some (.int x2), none]) ⟨Or.inl rfl, Or.inr rfl, Or.inr rfl, Or.inl rfl, trivial⟩ ?_
        exact hk63  _ hf
      · rw [if_neg c11] at hf
        refine ev_iload_n i_X4_leastRound_14 rfl ?_
        refine ev_iload_n i_X4_leastRound_15 rfl ?_
        refine ev_iload_n i_X4_leastRound_16 rfl ?_
        refine ev_iconst i_X4_leastRound_17 lt_i_m1 ?_
        refine ev_ixor i_X4_leastRound_18 ?_
        refine ev_iand i_X4_leastRound_19 ?_
        obtain ⟨v20, e20, hf⟩ := ob hf
        refine ev_cS_i i_X4_leastRound_20 lk_X4_leastRound_45 [.int x3, .int (x2 &&& (x1 ^^^ (-1 : Int32)))] rfl rfl (by decide) (Nat.le_of_ble_eq_true rfl) (by decide) (e_X9_isWithin e20) ?_
        refine ev_if_eq (tg := 57) i_X4_leastRound_23 (by decide) (fun c23 => ?_) (fun c23 => ?_)
        · rw [if_pos c23] at hf
          refine ev_iinc (y := (x3 + (1 : Int32))) i_X4_leastRound_57 rfl rfl (by decide) ?_
          refine ev_goto (tg := 2) i_X4_leastRound_60 (by decide) ?_
          exact ih (x3 + (1 : Int32)) _ hf
        · rw [if_neg c23] at hf
          refine ev_aload_n i_X4_leastRound_26 rfl ?_
          obtain ⟨b27, e27, hf⟩ := ob hf
          refine ev_gR i_X4_leastRound_27 fl_X4_9 rfl e27 ?_
          refine ev_iload_n i_X4_leastRound_30 rfl ?_
          refine ev_iload_n i_X4_leastRound_31 rfl ?_
          refine ev_ior i_X4_leastRound_32 ?_
          obtain ⟨v33, e33, hf⟩ := ob hf
          refine ev_aI i_X4_leastRound_33 e33 ?_
          refine ev_iconst i_X4_leastRound_34 lt_i_1 ?_
          refine ev_iadd i_X4_leastRound_35 ?_
          refine ev_aload_n i_X4_leastRound_36 rfl ?_
          obtain ⟨b37, e37, hf⟩ := ob hf
          refine ev_gR i_X4_leastRound_37 fl_X4_9 rfl e37 ?_
          refine ev_iload_n i_X4_leastRound_40 rfl ?_
          obtain ⟨v41, e41, hf⟩ := ob hf
          refine ev_aI i_X4_leastRound_41 e41 ?_
          refine ev_icmp_ne (tg := 57) i_X4_leastRound_42 (by decide) (fun c42 => ?_) (fun c42 => ?_)
          · rw [if_neg c42] at hf
            refine ev_iinc (y := (x3 + (1 : Int32))) i_X4_leastRound_57 rfl rfl (by decide) ?_
            refine ev_goto (tg := 2) i_X4_leastRound_60 (by decide) ?_
            exact ih (x3 + (1 : Int32)) _ hf
          · rw [if_pos c42] at hf
            refine ev_aload_n i_X4_leastRound_45 rfl ?_
            refine ev_iload_n i_X4_leastRound_46 rfl ?_
            refine ev_iload_n i_X4_leastRound_47 rfl ?_
            obtain ⟨v48, e48, hf⟩ := ob hf
            refine ev_cV_i i_X4_leastRound_48 lk_X4_leastRound_35 [.int x1, .int x3] rfl rfl (by decide) (gK_of e48).1.1 (gK_of e48).1.2 (Nat.le_of_ble_eq_true rfl) (by decide) (e_X4_leastNotGood e48) ?_
            refine ev_iconst i_X4_leastRound_51 lt_i_m1 ?_
            refine ev_icmp_ne (tg := 57) i_X4_leastRound_52 (by decide) (fun c52 => ?_) (fun c52 => ?_)
            · rw [if_neg c52] at hf
              refine ev_iinc (y := (x3 + (1 : Int32))) i_X4_leastRound_57 rfl rfl (by decide) ?_
              refine ev_goto (tg := 2) i_X4_leastRound_60 (by decide) ?_
              exact ih (x3 + (1 : Int32)) _ hf
            · rw [if_pos c52] at hf
              refine ev_iload_n i_X4_leastRound_55 rfl ?_
              cases hf
              exact ev_iiret i_X4_leastRound_56 rfl
def f_X4_leastRound (h : MH) (a0 : Nat) (x1 : Int32) (x2 : Int32) : Option Int32 := gK h a0 4 (f_X4_leastRound_L2 (some (x2 &&& (x1 ^^^ (-1 : Int32)))) h a0 x1 x2 fuel (1 : Int32))
set_option maxRecDepth 20000 in
theorem e_X4_leastRound {G : GG} {h : MH} {a0 : Nat} {x1 : Int32} {x2 : Int32} {r : Int32} (hf : f_X4_leastRound h a0 x1 x2 = some r) : Ev G 2 M_X4_leastRound 0 (ent M_X4_leastRound [.ref a0, .int x1, .int x2]) [] h (some (.int r)) h := by
  unfold f_X4_leastRound at hf
  show Ev G 2 M_X4_leastRound 0 [some (.ref a0), some (.int x1), some (.int x2), none] [] h (some (.int r)) h
  obtain ⟨-, hf⟩ := gK_of hf
  refine ev_iconst i_X4_leastRound_0 lt_i_1 ?_
  refine ev_istore_n i_X4_leastRound_1 (by decide) ?_
  exact l_X4_leastRound_2 (fun  r hf => by
    refine ev_iload_n i_X4_leastRound_63 rfl ?_
    refine ev_iload_n i_X4_leastRound_64 rfl ?_
    refine ev_iconst i_X4_leastRound_65 lt_i_m1 ?_
    refine ev_ixor i_X4_leastRound_66 ?_
    refine ev_iand i_X4_leastRound_67 ?_
    cases hf
    exact ev_iiret i_X4_leastRound_68 rfl) fuel (1 : Int32) _ hf
def f_X4_makeLeast_L17 (k54 : MH → Option (Int32 × MH)) (a0 : Nat) (a1 : Nat) (x2 : Int32) : Nat → MH → Int32 → Option (Int32 × MH)
  | 0, _, _ => none
  | n + 1, h, x3 => (if x3 < 0 then (k54 h) else ((f_X9_isWithin h x3 x2).bind fun v23 => (if v23 = 0 then (f_X4_makeLeast_L17 k54 a0 a1 x2 n h (x3 + (-1 : Int32))) else ((if (128 : Int32) ≤ x3 then (f_X4_makeLeast_L17 k54 a0 a1 x2 n h (x3 + (-1 : Int32))) else ((gR h a0 4 2).bind fun b37 => (f_X4_fewestFrom h a0 x3 x2).bind fun v44 => (sI h b37 x3 v44).bind fun h47 => f_X4_makeLeast_L17 k54 a0 a1 x2 n h47 (x3 + (-1 : Int32))))))))
set_option maxRecDepth 20000 in
theorem l_X4_makeLeast_17 {G : GG} {k54 : MH → Option (Int32 × MH)} {a0 : Nat} {a1 : Nat} {x2 : Int32} (hk54 : ∀ (hz : MH) (r : (Int32 × MH)), k54 hz = some r → Ev G 6 M_X4_makeLeast 54 [some (.ref a0), some (.ref a1), some (.int x2), none, none, none] [] hz (some (.int r.1)) r.2) : ∀ (n : Nat) (h : MH) (x3 : Int32) (r : (Int32 × MH)), f_X4_makeLeast_L17 k54 a0 a1 x2 n h x3 = some r → Ev G 6 M_X4_makeLeast 17 [some (.ref a0), some (.ref a1), some (.int x2), some (.int x3), none, none] [] h (some (.int r.1)) r.2 := by
  intro n
  induction n with
  | zero => intro h x3 r hf; rw [f_X4_makeLeast_L17] at hf; cases hf
  | succ n ih =>
    intro h x3 r hf
    rw [f_X4_makeLeast_L17] at hf
    refine ev_iload_n i_X4_makeLeast_17 rfl ?_
    refine ev_if_lt (tg := 54) i_X4_makeLeast_18 (by decide) (fun c18 => ?_) (fun c18 => ?_)
    · rw [if_pos c18] at hf
      refine ev_sub (lc2 := [some (.ref a0), some (.ref a1), some (.int x2), none, none, none]) ⟨Or.inr rfl, Or.inr rfl, Or.inr rfl, Or.inl rfl, Or.inr rfl, Or.inr rfl, trivial⟩ ?_
      exact hk54 h _ hf
    · rw [if_neg c18] at hf
      refine ev_iload_n i_X4_makeLeast_21 rfl ?_
      refine ev_iload_n i_X4_makeLeast_22 rfl ?_
      obtain ⟨v23, e23, hf⟩ := ob hf
      refine ev_cS_i i_X4_makeLeast_23 lk_X4_makeLeast_45 [.int x3, .int x2] rfl rfl (by decide) (Nat.le_of_ble_eq_true rfl) (by decide) (e_X9_isWithin e23) ?_
      refine ev_if_eq (tg := 48) i_X4_makeLeast_26 (by decide) (fun c26 => ?_) (fun c26 => ?_)
      · rw [if_pos c26] at hf
        refine ev_iinc (y := (x3 + (-1 : Int32))) i_X4_makeLeast_48 rfl rfl (by decide) ?_
        refine ev_goto (tg := 17) i_X4_makeLeast_51 (by decide) ?_
        exact ih h (x3 + (-1 : Int32)) _ hf
      · rw [if_neg c26] at hf
        refine ev_iload_n i_X4_makeLeast_29 rfl ?_
        refine ev_sipush i_X4_makeLeast_30 lt_s_128 ?_
        refine ev_icmp_ge (tg := 48) i_X4_makeLeast_33 (by decide) (fun c33 => ?_) (fun c33 => ?_)
        · rw [if_pos c33] at hf
          refine ev_iinc (y := (x3 + (-1 : Int32))) i_X4_makeLeast_48 rfl rfl (by decide) ?_
          refine ev_goto (tg := 17) i_X4_makeLeast_51 (by decide) ?_
          exact ih h (x3 + (-1 : Int32)) _ hf
        · rw [if_neg c33] at hf
          refine ev_aload_n i_X4_makeLeast_36 rfl ?_
          obtain ⟨b37, e37, hf⟩ := ob hf
          refine ev_gR i_X4_makeLeast_37 fl_X4_9 rfl e37 ?_
          refine ev_iload_n i_X4_makeLeast_40 rfl ?_
          refine ev_aload_n i_X4_makeLeast_41 rfl ?_
          refine ev_iload_n i_X4_makeLeast_42 rfl ?_
          refine ev_iload_n i_X4_makeLeast_43 rfl ?_
          obtain ⟨v44, e44, hf⟩ := ob hf
          refine ev_cV_i i_X4_makeLeast_44 lk_X4_makeLeast_49 [.int x3, .int x2] rfl rfl (by decide) (gK_of e44).1.1 (gK_of e44).1.2 (Nat.le_of_ble_eq_true rfl) (by decide) (e_X4_fewestFrom e44) ?_
          obtain ⟨h47, e47, hf⟩ := ob hf
          refine ev_sI i_X4_makeLeast_47 e47 ?_
          refine ev_iinc (y := (x3 + (-1 : Int32))) i_X4_makeLeast_48 rfl rfl (by decide) ?_
          refine ev_goto (tg := 17) i_X4_makeLeast_51 (by decide) ?_
          exact ih h47 (x3 + (-1 : Int32)) _ hf
def f_X4_makeLeast_L77 (k114 : MH → Option (Int32 × MH)) (a0 : Nat) (a1 : Nat) (x2 : Int32) : Nat → MH → Int32 → Int32 → Option (Int32 × MH)
  | 0, _, _, _ => none
  | n + 1, h, x3, x4 => (if (7 : Int32) ≤ x4 then (k114 h) else ((if x3 = x2 then (k114 h) else ((f_X4_leastRound h a0 x3 x2).bind fun v92 => (f_X3_add h a1 v92).bind fun h100 => f_X4_makeLeast_L77 k114 a0 a1 x2 n h100 (x3 ||| v92) (x4 + (1 : Int32))))))
set_option maxRecDepth 20000 in
theorem l_X4_makeLeast_77 {G : GG} {k114 : MH → Option (Int32 × MH)} {a0 : Nat} {a1 : Nat} {x2 : Int32} (hk114 : ∀ (hz : MH) (r : (Int32 × MH)), k114 hz = some r → Ev G 6 M_X4_makeLeast 114 [none, none, none, none, none, none] [] hz (some (.int r.1)) r.2) : ∀ (n : Nat) (h : MH) (x3 : Int32) (x4 : Int32) (r : (Int32 × MH)), f_X4_makeLeast_L77 k114 a0 a1 x2 n h x3 x4 = some r → Ev G 6 M_X4_makeLeast 77 [some (.ref a0), some (.ref a1), some (.int x2), some (.int x3), some (.int x4), none] [] h (some (.int r.1)) r.2 := by
  intro n
  induction n with
  | zero => intro h x3 x4 r hf; rw [f_X4_makeLeast_L77] at hf; cases hf
  | succ n ih =>
    intro h x3 x4 r hf
    rw [f_X4_makeLeast_L77] at hf
    refine ev_iload i_X4_makeLeast_77 rfl ?_
    refine ev_bipush i_X4_makeLeast_79 lt_b_7 ?_
    refine ev_icmp_ge (tg := 114) i_X4_makeLeast_81 (by decide) (fun c81 => ?_) (fun c81 => ?_)
    · rw [if_pos c81] at hf
      refine ev_sub (lc2 := [none, none, none, none, none, none]) ⟨Or.inl rfl, Or.inl rfl, Or.inl rfl, Or.inl rfl, Or.inl rfl, Or.inr rfl, trivial⟩ ?_
      exact hk114 h _ hf
    · rw [if_neg c81] at hf
      refine ev_iload_n i_X4_makeLeast_84 rfl ?_
      refine ev_iload_n i_X4_makeLeast_85 rfl ?_
      refine ev_icmp_eq (tg := 114) i_X4_makeLeast_86 (by decide) (fun c86 => ?_) (fun c86 => ?_)
      · rw [if_pos c86] at hf
        refine ev_sub (lc2 := [none, none, none, none, none, none]) ⟨Or.inl rfl, Or.inl rfl, Or.inl rfl, Or.inl rfl, Or.inl rfl, Or.inr rfl, trivial⟩ ?_
        exact hk114 h _ hf
      · rw [if_neg c86] at hf
        refine ev_aload_n i_X4_makeLeast_89 rfl ?_
        refine ev_iload_n i_X4_makeLeast_90 rfl ?_
        refine ev_iload_n i_X4_makeLeast_91 rfl ?_
        obtain ⟨v92, e92, hf⟩ := ob hf
        refine ev_cV_i i_X4_makeLeast_92 lk_X4_makeLeast_57 [.int x3, .int x2] rfl rfl (by decide) (gK_of e92).1.1 (gK_of e92).1.2 (Nat.le_of_ble_eq_true rfl) (by decide) (e_X4_leastRound e92) ?_
        refine ev_istore i_X4_makeLeast_95 (by decide) ?_
        refine ev_aload_n i_X4_makeLeast_97 rfl ?_
        refine ev_iload i_X4_makeLeast_98 rfl ?_
        obtain ⟨h100, e100, hf⟩ := ob hf
        refine ev_cV_v i_X4_makeLeast_100 lk_X4_makeLeast_60 [.int v92] rfl rfl (by decide) (gK_of e100).1.1 (gK_of e100).1.2 (Nat.le_of_ble_eq_true rfl) (by decide) (e_X3_add e100) ?_
        refine ev_iload_n i_X4_makeLeast_103 rfl ?_
        refine ev_iload i_X4_makeLeast_104 rfl ?_
        refine ev_ior i_X4_makeLeast_106 ?_
        refine ev_istore_n i_X4_makeLeast_107 (by decide) ?_
        refine ev_iinc (y := (x4 + (1 : Int32))) i_X4_makeLeast_108 rfl rfl (by decide) ?_
        refine ev_goto (tg := 77) i_X4_makeLeast_111 (by decide) ?_
        refine ev_sub (lc2 := [some (.ref a0), some (.ref a1), some (.int x2), some (.int (x3 ||| v92)), some (.int (x4 + (1 : Int32))), none]) ⟨Or.inr rfl, Or.inr rfl, Or.inr rfl, Or.inr rfl, Or.inr rfl, Or.inl rfl, trivial⟩ ?_
        exact ih h100 (x3 ||| v92) (x4 + (1 : Int32)) _ hf
def f_X4_makeLeast (h : MH) (a0 : Nat) (a1 : Nat) : Option (Int32 × MH) := gK h a0 4 ((gR h a0 4 1).bind fun b1 => (f_X0_findGood h b1).bind fun h4 => (gR h4 a0 4 0).bind fun b8 => (f_X1_unlike h4 b8).bind fun v11 => f_X4_makeLeast_L17 (fun he54 => (gR he54 a0 4 2).bind fun b55 => (aI he54 b55 (0 : Int32)).bind fun v59 => (if v59 < (1000 : Int32) then ((f_X3_clear he54 a1).bind fun h69 => f_X4_makeLeast_L77 (fun he114 => some ((1 : Int32), he114)) a0 a1 v11 fuel h69 (0 : Int32) (0 : Int32)) else (some ((0 : Int32), he54)))) a0 a1 v11 fuel h4 v11)
set_option maxRecDepth 20000 in
theorem e_X4_makeLeast {G : GG} {h : MH} {a0 : Nat} {a1 : Nat} {r : (Int32 × MH)} (hf : f_X4_makeLeast h a0 a1 = some r) : Ev G 6 M_X4_makeLeast 0 (ent M_X4_makeLeast [.ref a0, .ref a1]) [] h (some (.int r.1)) r.2 := by
  unfold f_X4_makeLeast at hf
  show Ev G 6 M_X4_makeLeast 0 [some (.ref a0), some (.ref a1), none, none, none, none] [] h (some (.int r.1)) r.2
  obtain ⟨-, hf⟩ := gK_of hf
  refine ev_aload_n i_X4_makeLeast_0 rfl ?_
  obtain ⟨b1, e1, hf⟩ := ob hf
  refine ev_gR i_X4_makeLeast_1 fl_X4_22 rfl e1 ?_
  obtain ⟨h4, e4, hf⟩ := ob hf
  refine ev_cV_v i_X4_makeLeast_4 lk_X4_makeLeast_26 [] rfl rfl (by decide) (gK_of e4).1.1 (gK_of e4).1.2 (Nat.le_of_ble_eq_true rfl) (by decide) (e_X0_findGood e4) ?_
  refine ev_aload_n i_X4_makeLeast_7 rfl ?_
  obtain ⟨b8, e8, hf⟩ := ob hf
  refine ev_gR i_X4_makeLeast_8 fl_X4_18 rfl e8 ?_
  obtain ⟨v11, e11, hf⟩ := ob hf
  refine ev_cV_i i_X4_makeLeast_11 lk_X4_makeLeast_39 [] rfl rfl (by decide) (gK_of e11).1.1 (gK_of e11).1.2 (Nat.le_of_ble_eq_true rfl) (by decide) (e_X1_unlike e11) ?_
  refine ev_istore_n i_X4_makeLeast_14 (by decide) ?_
  refine ev_iload_n i_X4_makeLeast_15 rfl ?_
  refine ev_istore_n i_X4_makeLeast_16 (by decide) ?_
  exact l_X4_makeLeast_17 (fun he54 r hf => by
    refine ev_aload_n i_X4_makeLeast_54 rfl ?_
    obtain ⟨b55, e55, hf⟩ := ob hf
    refine ev_gR i_X4_makeLeast_55 fl_X4_9 rfl e55 ?_
    refine ev_iconst i_X4_makeLeast_58 lt_i_0 ?_
    obtain ⟨v59, e59, hf⟩ := ob hf
    refine ev_aI i_X4_makeLeast_59 e59 ?_
    refine ev_sipush i_X4_makeLeast_60 lt_s_1000 ?_
    refine ev_icmp_lt (tg := 68) i_X4_makeLeast_63 (by decide) (fun c63 => ?_) (fun c63 => ?_)
    · rw [if_pos c63] at hf
      refine ev_aload_n i_X4_makeLeast_68 rfl ?_
      obtain ⟨h69, e69, hf⟩ := ob hf
      refine ev_cV_v i_X4_makeLeast_69 lk_X4_makeLeast_52 [] rfl rfl (by decide) (gK_of e69).1.1 (gK_of e69).1.2 (Nat.le_of_ble_eq_true rfl) (by decide) (e_X3_clear e69) ?_
      refine ev_iconst i_X4_makeLeast_72 lt_i_0 ?_
      refine ev_istore_n i_X4_makeLeast_73 (by decide) ?_
      refine ev_iconst i_X4_makeLeast_74 lt_i_0 ?_
      refine ev_istore i_X4_makeLeast_75 (by decide) ?_
      exact l_X4_makeLeast_77 (fun he114 r hf => by
        refine ev_iconst i_X4_makeLeast_114 lt_i_1 ?_
        cases hf
        exact ev_zret i_X4_makeLeast_115 rfl (by decide)) fuel h69 (0 : Int32) (0 : Int32) _ hf
    · rw [if_neg c63] at hf
      refine ev_iconst i_X4_makeLeast_66 lt_i_0 ?_
      cases hf
      exact ev_zret i_X4_makeLeast_67 rfl (by decide)) fuel h4 v11 _ hf
def f_X4_orderingsBy (h : MH) (a0 : Nat) (x1 : Int32) (x2 : Int32) (x3 : Int32) : Option Int32 := gK h a0 4 ((if (x1 ||| ((1 : Int32) <<< (x2 &&& 31))) = x1 then (some (0 : Int32)) else ((f_X9_isWithin h (x1 ||| ((1 : Int32) <<< (x2 &&& 31))) x3).bind fun v16 => (if v16 = 0 then (some (0 : Int32)) else ((if (x1 ||| ((1 : Int32) <<< (x2 &&& 31))) < (128 : Int32) then ((gR h a0 4 3).bind fun b35 => (aI h b35 (x1 ||| ((1 : Int32) <<< (x2 &&& 31)))).bind fun v40 => some v40) else (some (0 : Int32))))))))
set_option maxRecDepth 20000 in
theorem e_X4_orderingsBy {G : GG} {h : MH} {a0 : Nat} {x1 : Int32} {x2 : Int32} {x3 : Int32} {r : Int32} (hf : f_X4_orderingsBy h a0 x1 x2 x3 = some r) : Ev G 1 M_X4_orderingsBy 0 (ent M_X4_orderingsBy [.ref a0, .int x1, .int x2, .int x3]) [] h (some (.int r)) h := by
  unfold f_X4_orderingsBy at hf
  show Ev G 1 M_X4_orderingsBy 0 [some (.ref a0), some (.int x1), some (.int x2), some (.int x3), none] [] h (some (.int r)) h
  obtain ⟨-, hf⟩ := gK_of hf
  refine ev_iload_n i_X4_orderingsBy_0 rfl ?_
  refine ev_iconst i_X4_orderingsBy_1 lt_i_1 ?_
  refine ev_iload_n i_X4_orderingsBy_2 rfl ?_
  refine ev_ishl i_X4_orderingsBy_3 ?_
  refine ev_ior i_X4_orderingsBy_4 ?_
  refine ev_istore i_X4_orderingsBy_5 (by decide) ?_
  refine ev_iload i_X4_orderingsBy_7 rfl ?_
  refine ev_iload_n i_X4_orderingsBy_9 rfl ?_
  refine ev_icmp_eq (tg := 30) i_X4_orderingsBy_10 (by decide) (fun c10 => ?_) (fun c10 => ?_)
  · rw [if_pos c10] at hf
    refine ev_iconst i_X4_orderingsBy_30 lt_i_0 ?_
    refine ev_goto (tg := 41) i_X4_orderingsBy_31 (by decide) ?_
    cases hf
    exact ev_iiret i_X4_orderingsBy_41 rfl
  · rw [if_neg c10] at hf
    refine ev_iload i_X4_orderingsBy_13 rfl ?_
    refine ev_iload_n i_X4_orderingsBy_15 rfl ?_
    obtain ⟨v16, e16, hf⟩ := ob hf
    refine ev_cS_i i_X4_orderingsBy_16 lk_X4_orderingsBy_45 [.int (x1 ||| ((1 : Int32) <<< (x2 &&& 31))), .int x3] rfl rfl (by decide) (Nat.le_of_ble_eq_true rfl) (by decide) (e_X9_isWithin e16) ?_
    refine ev_if_eq (tg := 30) i_X4_orderingsBy_19 (by decide) (fun c19 => ?_) (fun c19 => ?_)
    · rw [if_pos c19] at hf
      refine ev_iconst i_X4_orderingsBy_30 lt_i_0 ?_
      refine ev_goto (tg := 41) i_X4_orderingsBy_31 (by decide) ?_
      cases hf
      exact ev_iiret i_X4_orderingsBy_41 rfl
    · rw [if_neg c19] at hf
      refine ev_iload i_X4_orderingsBy_22 rfl ?_
      refine ev_sipush i_X4_orderingsBy_24 lt_s_128 ?_
      refine ev_icmp_lt (tg := 34) i_X4_orderingsBy_27 (by decide) (fun c27 => ?_) (fun c27 => ?_)
      · rw [if_pos c27] at hf
        refine ev_aload_n i_X4_orderingsBy_34 rfl ?_
        obtain ⟨b35, e35, hf⟩ := ob hf
        refine ev_gR i_X4_orderingsBy_35 fl_X4_15 rfl e35 ?_
        refine ev_iload i_X4_orderingsBy_38 rfl ?_
        obtain ⟨v40, e40, hf⟩ := ob hf
        refine ev_aI i_X4_orderingsBy_40 e40 ?_
        cases hf
        exact ev_iiret i_X4_orderingsBy_41 rfl
      · rw [if_neg c27] at hf
        refine ev_iconst i_X4_orderingsBy_30 lt_i_0 ?_
        refine ev_goto (tg := 41) i_X4_orderingsBy_31 (by decide) ?_
        cases hf
        exact ev_iiret i_X4_orderingsBy_41 rfl
def f_X4_orderingsFrom_L25 (k49 : Int32 → Option Int32) (h : MH) (a0 : Nat) (x1 : Int32) (x2 : Int32) : Nat → Int32 → Int32 → Option Int32
  | 0, _, _ => none
  | n + 1, x3, x4 => (if (7 : Int32) ≤ x4 then (k49 x3) else ((f_X4_orderingsBy h a0 x1 x4 x2).bind fun v38 => f_X4_orderingsFrom_L25 k49 h a0 x1 x2 n (x3 + v38) (x4 + (1 : Int32))))
set_option maxRecDepth 20000 in
theorem l_X4_orderingsFrom_25 {G : GG} {k49 : Int32 → Option Int32} {h : MH} {a0 : Nat} {x1 : Int32} {x2 : Int32} (hk49 : ∀ (x3z : Int32) (r : Int32), k49 x3z = some r → Ev G 2 M_X4_orderingsFrom 49 [none, none, none, some (.int x3z), none] [] h (some (.int r)) h) : ∀ (n : Nat) (x3 : Int32) (x4 : Int32) (r : Int32), f_X4_orderingsFrom_L25 k49 h a0 x1 x2 n x3 x4 = some r → Ev G 2 M_X4_orderingsFrom 25 [some (.ref a0), some (.int x1), some (.int x2), some (.int x3), some (.int x4)] [] h (some (.int r)) h := by
  intro n
  induction n with
  | zero => intro x3 x4 r hf; rw [f_X4_orderingsFrom_L25] at hf; cases hf
  | succ n ih =>
    intro x3 x4 r hf
    rw [f_X4_orderingsFrom_L25] at hf
    refine ev_iload i_X4_orderingsFrom_25 rfl ?_
    refine ev_bipush i_X4_orderingsFrom_27 lt_b_7 ?_
    refine ev_icmp_ge (tg := 49) i_X4_orderingsFrom_29 (by decide) (fun c29 => ?_) (fun c29 => ?_)
    · rw [if_pos c29] at hf
      refine ev_sub (lc2 := [none, none, none, some (.int x3), none]) ⟨Or.inl rfl, Or.inl rfl, Or.inl rfl, Or.inr rfl, Or.inl rfl, trivial⟩ ?_
      exact hk49 x3 _ hf
    · rw [if_neg c29] at hf
      refine ev_iload_n i_X4_orderingsFrom_32 rfl ?_
      refine ev_aload_n i_X4_orderingsFrom_33 rfl ?_
      refine ev_iload_n i_X4_orderingsFrom_34 rfl ?_
      refine ev_iload i_X4_orderingsFrom_35 rfl ?_
      refine ev_iload_n i_X4_orderingsFrom_37 rfl ?_
      obtain ⟨v38, e38, hf⟩ := ob hf
      refine ev_cV_i i_X4_orderingsFrom_38 lk_X4_orderingsFrom_68 [.int x1, .int x4, .int x2] rfl rfl (by decide) (gK_of e38).1.1 (gK_of e38).1.2 (Nat.le_of_ble_eq_true rfl) (by decide) (e_X4_orderingsBy e38) ?_
      refine ev_iadd i_X4_orderingsFrom_41 ?_
      refine ev_istore_n i_X4_orderingsFrom_42 (by decide) ?_
      refine ev_iinc (y := (x4 + (1 : Int32))) i_X4_orderingsFrom_43 rfl rfl (by decide) ?_
      refine ev_goto (tg := 25) i_X4_orderingsFrom_46 (by decide) ?_
      exact ih (x3 + v38) (x4 + (1 : Int32)) _ hf
def f_X4_orderingsFrom (h : MH) (a0 : Nat) (x1 : Int32) (x2 : Int32) : Option Int32 := gK h a0 4 ((gR h a0 4 1).bind fun b1 => (f_X0_isGood h b1 x1).bind fun v5 => (if v5 = 0 then (some (0 : Int32)) else ((if x1 = x2 then (some (1 : Int32)) else (f_X4_orderingsFrom_L25 (fun x3e49 => some x3e49) h a0 x1 x2 fuel (0 : Int32) (0 : Int32))))))
set_option maxRecDepth 20000 in
theorem e_X4_orderingsFrom {G : GG} {h : MH} {a0 : Nat} {x1 : Int32} {x2 : Int32} {r : Int32} (hf : f_X4_orderingsFrom h a0 x1 x2 = some r) : Ev G 2 M_X4_orderingsFrom 0 (ent M_X4_orderingsFrom [.ref a0, .int x1, .int x2]) [] h (some (.int r)) h := by
  unfold f_X4_orderingsFrom at hf
  show Ev G 2 M_X4_orderingsFrom 0 [some (.ref a0), some (.int x1), some (.int x2), none, none] [] h (some (.int r)) h
  obtain ⟨-, hf⟩ := gK_of hf
  refine ev_aload_n i_X4_orderingsFrom_0 rfl ?_
  obtain ⟨b1, e1, hf⟩ := ob hf
  refine ev_gR i_X4_orderingsFrom_1 fl_X4_22 rfl e1 ?_
  refine ev_iload_n i_X4_orderingsFrom_4 rfl ?_
  obtain ⟨v5, e5, hf⟩ := ob hf
  refine ev_cV_i i_X4_orderingsFrom_5 lk_X4_orderingsFrom_31 [.int x1] rfl rfl (by decide) (gK_of e5).1.1 (gK_of e5).1.2 (Nat.le_of_ble_eq_true rfl) (by decide) (e_X0_isGood e5) ?_
  refine ev_if_ne (tg := 13) i_X4_orderingsFrom_8 (by decide) (fun c8 => ?_) (fun c8 => ?_)
  · rw [if_neg c8] at hf
    refine ev_iload_n i_X4_orderingsFrom_13 rfl ?_
    refine ev_iload_n i_X4_orderingsFrom_14 rfl ?_
    refine ev_icmp_ne (tg := 20) i_X4_orderingsFrom_15 (by decide) (fun c15 => ?_) (fun c15 => ?_)
    · rw [if_neg c15] at hf
      refine ev_iconst i_X4_orderingsFrom_20 lt_i_0 ?_
      refine ev_istore_n i_X4_orderingsFrom_21 (by decide) ?_
      refine ev_iconst i_X4_orderingsFrom_22 lt_i_0 ?_
      refine ev_istore i_X4_orderingsFrom_23 (by decide) ?_
      exact l_X4_orderingsFrom_25 (fun x3e49 r hf => by
        refine ev_iload_n i_X4_orderingsFrom_49 rfl ?_
        cases hf
        exact ev_iiret i_X4_orderingsFrom_50 rfl) fuel (0 : Int32) (0 : Int32) _ hf
    · rw [if_pos c15] at hf
      refine ev_iconst i_X4_orderingsFrom_18 lt_i_1 ?_
      cases hf
      exact ev_iiret i_X4_orderingsFrom_19 rfl
  · rw [if_pos c8] at hf
    refine ev_iconst i_X4_orderingsFrom_11 lt_i_0 ?_
    cases hf
    exact ev_iiret i_X4_orderingsFrom_12 rfl
def f_X4_findOrderings_L2 (k39 : MH → Option (Int32 × MH)) (a0 : Nat) (x1 : Int32) : Nat → MH → Int32 → Option (Int32 × MH)
  | 0, _, _ => none
  | n + 1, h, x2 => (if x2 < 0 then (k39 h) else ((f_X9_isWithin h x2 x1).bind fun v8 => (if v8 = 0 then (f_X4_findOrderings_L2 k39 a0 x1 n h (x2 + (-1 : Int32))) else ((if (128 : Int32) ≤ x2 then (f_X4_findOrderings_L2 k39 a0 x1 n h (x2 + (-1 : Int32))) else ((gR h a0 4 3).bind fun b22 => (f_X4_orderingsFrom h a0 x2 x1).bind fun v29 => (sI h b22 x2 v29).bind fun h32 => f_X4_findOrderings_L2 k39 a0 x1 n h32 (x2 + (-1 : Int32))))))))
set_option maxRecDepth 20000 in
theorem l_X4_findOrderings_2 {G : GG} {k39 : MH → Option (Int32 × MH)} {a0 : Nat} {x1 : Int32} (hk39 : ∀ (hz : MH) (r : (Int32 × MH)), k39 hz = some r → Ev G 3 M_X4_findOrderings 39 [some (.ref a0), none, none] [] hz (some (.int r.1)) r.2) : ∀ (n : Nat) (h : MH) (x2 : Int32) (r : (Int32 × MH)), f_X4_findOrderings_L2 k39 a0 x1 n h x2 = some r → Ev G 3 M_X4_findOrderings 2 [some (.ref a0), some (.int x1), some (.int x2)] [] h (some (.int r.1)) r.2 := by
  intro n
  induction n with
  | zero => intro h x2 r hf; rw [f_X4_findOrderings_L2] at hf; cases hf
  | succ n ih =>
    intro h x2 r hf
    rw [f_X4_findOrderings_L2] at hf
    refine ev_iload_n i_X4_findOrderings_2 rfl ?_
    refine ev_if_lt (tg := 39) i_X4_findOrderings_3 (by decide) (fun c3 => ?_) (fun c3 => ?_)
    · rw [if_pos c3] at hf
      refine ev_sub (lc2 := [some (.ref a0), none, none]) ⟨Or.inr rfl, Or.inl rfl, Or.inl rfl, trivial⟩ ?_
      exact hk39 h _ hf
    · rw [if_neg c3] at hf
      refine ev_iload_n i_X4_findOrderings_6 rfl ?_
      refine ev_iload_n i_X4_findOrderings_7 rfl ?_
      obtain ⟨v8, e8, hf⟩ := ob hf
      refine ev_cS_i i_X4_findOrderings_8 lk_X4_findOrderings_45 [.int x2, .int x1] rfl rfl (by decide) (Nat.le_of_ble_eq_true rfl) (by decide) (e_X9_isWithin e8) ?_
      refine ev_if_eq (tg := 33) i_X4_findOrderings_11 (by decide) (fun c11 => ?_) (fun c11 => ?_)
      · rw [if_pos c11] at hf
        refine ev_iinc (y := (x2 + (-1 : Int32))) i_X4_findOrderings_33 rfl rfl (by decide) ?_
        refine ev_goto (tg := 2) i_X4_findOrderings_36 (by decide) ?_
        exact ih h (x2 + (-1 : Int32)) _ hf
      · rw [if_neg c11] at hf
        refine ev_iload_n i_X4_findOrderings_14 rfl ?_
        refine ev_sipush i_X4_findOrderings_15 lt_s_128 ?_
        refine ev_icmp_ge (tg := 33) i_X4_findOrderings_18 (by decide) (fun c18 => ?_) (fun c18 => ?_)
        · rw [if_pos c18] at hf
          refine ev_iinc (y := (x2 + (-1 : Int32))) i_X4_findOrderings_33 rfl rfl (by decide) ?_
          refine ev_goto (tg := 2) i_X4_findOrderings_36 (by decide) ?_
          exact ih h (x2 + (-1 : Int32)) _ hf
        · rw [if_neg c18] at hf
          refine ev_aload_n i_X4_findOrderings_21 rfl ?_
          obtain ⟨b22, e22, hf⟩ := ob hf
          refine ev_gR i_X4_findOrderings_22 fl_X4_15 rfl e22 ?_
          refine ev_iload_n i_X4_findOrderings_25 rfl ?_
          refine ev_aload_n i_X4_findOrderings_26 rfl ?_
          refine ev_iload_n i_X4_findOrderings_27 rfl ?_
          refine ev_iload_n i_X4_findOrderings_28 rfl ?_
          obtain ⟨v29, e29, hf⟩ := ob hf
          refine ev_cV_i i_X4_findOrderings_29 lk_X4_findOrderings_72 [.int x2, .int x1] rfl rfl (by decide) (gK_of e29).1.1 (gK_of e29).1.2 (Nat.le_of_ble_eq_true rfl) (by decide) (e_X4_orderingsFrom e29) ?_
          obtain ⟨h32, e32, hf⟩ := ob hf
          refine ev_sI i_X4_findOrderings_32 e32 ?_
          refine ev_iinc (y := (x2 + (-1 : Int32))) i_X4_findOrderings_33 rfl rfl (by decide) ?_
          refine ev_goto (tg := 2) i_X4_findOrderings_36 (by decide) ?_
          exact ih h32 (x2 + (-1 : Int32)) _ hf
def f_X4_findOrderings (h : MH) (a0 : Nat) (x1 : Int32) : Option (Int32 × MH) := gK h a0 4 (f_X4_findOrderings_L2 (fun he39 => (gR he39 a0 4 3).bind fun b40 => (aI he39 b40 (0 : Int32)).bind fun v44 => some (v44, he39)) a0 x1 fuel h x1)
set_option maxRecDepth 20000 in
theorem e_X4_findOrderings {G : GG} {h : MH} {a0 : Nat} {x1 : Int32} {r : (Int32 × MH)} (hf : f_X4_findOrderings h a0 x1 = some r) : Ev G 3 M_X4_findOrderings 0 (ent M_X4_findOrderings [.ref a0, .int x1]) [] h (some (.int r.1)) r.2 := by
  unfold f_X4_findOrderings at hf
  show Ev G 3 M_X4_findOrderings 0 [some (.ref a0), some (.int x1), none] [] h (some (.int r.1)) r.2
  obtain ⟨-, hf⟩ := gK_of hf
  refine ev_iload_n i_X4_findOrderings_0 rfl ?_
  refine ev_istore_n i_X4_findOrderings_1 (by decide) ?_
  exact l_X4_findOrderings_2 (fun he39 r hf => by
    refine ev_aload_n i_X4_findOrderings_39 rfl ?_
    obtain ⟨b40, e40, hf⟩ := ob hf
    refine ev_gR i_X4_findOrderings_40 fl_X4_15 rfl e40 ?_
    refine ev_iconst i_X4_findOrderings_43 lt_i_0 ?_
    obtain ⟨v44, e44, hf⟩ := ob hf
    refine ev_aI i_X4_findOrderings_44 e44 ?_
    cases hf
    exact ev_iiret i_X4_findOrderings_45 rfl) fuel h x1 _ hf
def f_X4_countOrders (h : MH) (a0 : Nat) : Option (Int32 × MH) := gK h a0 4 ((gR h a0 4 1).bind fun b1 => (f_X0_findGood h b1).bind fun h4 => (gR h4 a0 4 0).bind fun b9 => (f_X1_unlike h4 b9).bind fun v12 => (f_X4_findOrderings h4 a0 v12).bind fun r15 => some (r15.1, r15.2))
set_option maxRecDepth 20000 in
theorem e_X4_countOrders {G : GG} {h : MH} {a0 : Nat} {r : (Int32 × MH)} (hf : f_X4_countOrders h a0 = some r) : Ev G 6 M_X4_countOrders 0 (ent M_X4_countOrders [.ref a0]) [] h (some (.int r.1)) r.2 := by
  unfold f_X4_countOrders at hf
  show Ev G 6 M_X4_countOrders 0 [some (.ref a0)] [] h (some (.int r.1)) r.2
  obtain ⟨-, hf⟩ := gK_of hf
  refine ev_aload_n i_X4_countOrders_0 rfl ?_
  obtain ⟨b1, e1, hf⟩ := ob hf
  refine ev_gR i_X4_countOrders_1 fl_X4_22 rfl e1 ?_
  obtain ⟨h4, e4, hf⟩ := ob hf
  refine ev_cV_v i_X4_countOrders_4 lk_X4_countOrders_26 [] rfl rfl (by decide) (gK_of e4).1.1 (gK_of e4).1.2 (Nat.le_of_ble_eq_true rfl) (by decide) (e_X0_findGood e4) ?_
  refine ev_aload_n i_X4_countOrders_7 rfl ?_
  refine ev_aload_n i_X4_countOrders_8 rfl ?_
  obtain ⟨b9, e9, hf⟩ := ob hf
  refine ev_gR i_X4_countOrders_9 fl_X4_18 rfl e9 ?_
  obtain ⟨v12, e12, hf⟩ := ob hf
  refine ev_cV_i i_X4_countOrders_12 lk_X4_countOrders_39 [] rfl rfl (by decide) (gK_of e12).1.1 (gK_of e12).1.2 (Nat.le_of_ble_eq_true rfl) (by decide) (e_X1_unlike e12) ?_
  obtain ⟨r15, e15, hf⟩ := ob hf
  refine ev_cV_i i_X4_countOrders_15 lk_X4_countOrders_64 [.int v12] rfl rfl (by decide) (gK_of e15).1.1 (gK_of e15).1.2 (Nat.le_of_ble_eq_true rfl) (by decide) (e_X4_findOrderings e15) ?_
  cases hf
  exact ev_iiret i_X4_countOrders_18 rfl
def f_X4_makeOrder_L59 (k102 : Int32 → Int32 → Option (Int32 × MH)) (h : MH) (a0 : Nat) (a1 : Nat) (x3 : Int32) (x4 : Int32) (x6 : Int32) : Nat → Int32 → Int32 → Option (Int32 × MH)
  | 0, _, _ => none
  | n + 1, x5, x7 => (if (7 : Int32) ≤ (x7 + (1 : Int32)) then (k102 x5 x7) else ((f_X4_orderingsBy h a0 x4 x7 x3).bind fun v76 => (if x5 < v76 then (k102 x5 x7) else ((f_X4_orderingsBy h a0 x4 x7 x3).bind fun v90 => f_X4_makeOrder_L59 k102 h a0 a1 x3 x4 x6 n (x5 - v90) (x7 + (1 : Int32))))))
set_option maxRecDepth 20000 in
theorem l_X4_makeOrder_59 {G : GG} {k102 : Int32 → Int32 → Option (Int32 × MH)} {h : MH} {a0 : Nat} {a1 : Nat} {x3 : Int32} {x4 : Int32} {x6 : Int32} (hk102 : ∀ (x5z : Int32) (x7z : Int32) (r : (Int32 × MH)), k102 x5z x7z = some r → Ev G 6 M_X4_makeOrder 102 [some (.ref a0), some (.ref a1), none, some (.int x3), some (.int x4), some (.int x5z), some (.int x6), some (.int x7z)] [] h (some (.int r.1)) r.2) : ∀ (n : Nat) (x5 : Int32) (x7 : Int32) (r : (Int32 × MH)), f_X4_makeOrder_L59 k102 h a0 a1 x3 x4 x6 n x5 x7 = some r → Ev G 6 M_X4_makeOrder 59 [some (.ref a0), some (.ref a1), none, some (.int x3), some (.int x4), some (.int x5), some (.int x6), some (.int x7)] [] h (some (.int r.1)) r.2 := by
  intro n
  induction n with
  | zero => intro x5 x7 r hf; rw [f_X4_makeOrder_L59] at hf; cases hf
  | succ n ih =>
    intro x5 x7 r hf
    rw [f_X4_makeOrder_L59] at hf
    refine ev_iload i_X4_makeOrder_59 rfl ?_
    refine ev_iconst i_X4_makeOrder_61 lt_i_1 ?_
    refine ev_iadd i_X4_makeOrder_62 ?_
    refine ev_bipush i_X4_makeOrder_63 lt_b_7 ?_
    refine ev_icmp_ge (tg := 102) i_X4_makeOrder_65 (by decide) (fun c65 => ?_) (fun c65 => ?_)
    · rw [if_pos c65] at hf
      exact hk102 x5 x7 _ hf
    · rw [if_neg c65] at hf
      refine ev_iload i_X4_makeOrder_68 rfl ?_
      refine ev_aload_n i_X4_makeOrder_70 rfl ?_
      refine ev_iload i_X4_makeOrder_71 rfl ?_
      refine ev_iload i_X4_makeOrder_73 rfl ?_
      refine ev_iload_n i_X4_makeOrder_75 rfl ?_
      obtain ⟨v76, e76, hf⟩ := ob hf
      refine ev_cV_i i_X4_makeOrder_76 lk_X4_makeOrder_68 [.int x4, .int x7, .int x3] rfl rfl (by decide) (gK_of e76).1.1 (gK_of e76).1.2 (Nat.le_of_ble_eq_true rfl) (by decide) (e_X4_orderingsBy e76) ?_
      refine ev_icmp_lt (tg := 102) i_X4_makeOrder_79 (by decide) (fun c79 => ?_) (fun c79 => ?_)
      · rw [if_pos c79] at hf
        exact hk102 x5 x7 _ hf
      · rw [if_neg c79] at hf
        refine ev_iload i_X4_makeOrder_82 rfl ?_
        refine ev_aload_n i_X4_makeOrder_84 rfl ?_
        refine ev_iload i_X4_makeOrder_85 rfl ?_
        refine ev_iload i_X4_makeOrder_87 rfl ?_
        refine ev_iload_n i_X4_makeOrder_89 rfl ?_
        obtain ⟨v90, e90, hf⟩ := ob hf
        refine ev_cV_i i_X4_makeOrder_90 lk_X4_makeOrder_68 [.int x4, .int x7, .int x3] rfl rfl (by decide) (gK_of e90).1.1 (gK_of e90).1.2 (Nat.le_of_ble_eq_true rfl) (by decide) (e_X4_orderingsBy e90) ?_
        refine ev_isub i_X4_makeOrder_93 ?_
        refine ev_istore i_X4_makeOrder_94 (by decide) ?_
        refine ev_iinc (y := (x7 + (1 : Int32))) i_X4_makeOrder_96 rfl rfl (by decide) ?_
        refine ev_goto (tg := 59) i_X4_makeOrder_99 (by decide) ?_
        exact ih (x5 - v90) (x7 + (1 : Int32)) _ hf
def f_X4_makeOrder_L43 (k125 : MH → Option (Int32 × MH)) (a0 : Nat) (a1 : Nat) (x3 : Int32) : Nat → MH → Int32 → Int32 → Int32 → Option (Int32 × MH)
  | 0, _, _, _, _ => none
  | n + 1, h, x4, x5, x6 => (if (7 : Int32) ≤ x6 then (k125 h) else ((if x4 = x3 then (k125 h) else (f_X4_makeOrder_L59 (fun x5e102 x7e102 => (f_X3_add h a1 ((1 : Int32) <<< (x7e102 &&& 31))).bind fun h107 => f_X4_makeOrder_L43 k125 a0 a1 x3 n h107 (x4 ||| ((1 : Int32) <<< (x7e102 &&& 31))) x5e102 (x6 + (1 : Int32))) h a0 a1 x3 x4 x6 fuel x5 (0 : Int32)))))
set_option maxRecDepth 20000 in
theorem l_X4_makeOrder_43 {G : GG} {k125 : MH → Option (Int32 × MH)} {a0 : Nat} {a1 : Nat} {x3 : Int32} (hk125 : ∀ (hz : MH) (r : (Int32 × MH)), k125 hz = some r → Ev G 6 M_X4_makeOrder 125 [none, none, none, none, none, none, none, none] [] hz (some (.int r.1)) r.2) : ∀ (n : Nat) (h : MH) (x4 : Int32) (x5 : Int32) (x6 : Int32) (r : (Int32 × MH)), f_X4_makeOrder_L43 k125 a0 a1 x3 n h x4 x5 x6 = some r → Ev G 6 M_X4_makeOrder 43 [some (.ref a0), some (.ref a1), none, some (.int x3), some (.int x4), some (.int x5), some (.int x6), none] [] h (some (.int r.1)) r.2 := by
  intro n
  induction n with
  | zero => intro h x4 x5 x6 r hf; rw [f_X4_makeOrder_L43] at hf; cases hf
  | succ n ih =>
    intro h x4 x5 x6 r hf
    rw [f_X4_makeOrder_L43] at hf
    refine ev_iload i_X4_makeOrder_43 rfl ?_
    refine ev_bipush i_X4_makeOrder_45 lt_b_7 ?_
    refine ev_icmp_ge (tg := 125) i_X4_makeOrder_47 (by decide) (fun c47 => ?_) (fun c47 => ?_)
    · rw [if_pos c47] at hf
      refine ev_sub (lc2 := [none, none, none, none, none, none, none, none]) ⟨Or.inl rfl, Or.inl rfl, Or.inr rfl, Or.inl rfl, Or.inl rfl, Or.inl rfl, Or.inl rfl, Or.inr rfl, trivial⟩ ?_
      exact hk125 h _ hf
    · rw [if_neg c47] at hf
      refine ev_iload i_X4_makeOrder_50 rfl ?_
      refine ev_iload_n i_X4_makeOrder_52 rfl ?_
      refine ev_icmp_eq (tg := 125) i_X4_makeOrder_53 (by decide) (fun c53 => ?_) (fun c53 => ?_)
      · rw [if_pos c53] at hf
        refine ev_sub (lc2 := [none, none, none, none, none, none, none, none]) ⟨Or.inl rfl, Or.inl rfl, Or.inr rfl, Or.inl rfl, Or.inl rfl, Or.inl rfl, Or.inl rfl, Or.inr rfl, trivial⟩ ?_
        exact hk125 h _ hf
      · rw [if_neg c53] at hf
        refine ev_iconst i_X4_makeOrder_56 lt_i_0 ?_
        refine ev_istore i_X4_makeOrder_57 (by decide) ?_
        exact l_X4_makeOrder_59 (fun x5e102 x7e102 r hf => by
          refine ev_aload_n i_X4_makeOrder_102 rfl ?_
          refine ev_iconst i_X4_makeOrder_103 lt_i_1 ?_
          refine ev_iload i_X4_makeOrder_104 rfl ?_
          refine ev_ishl i_X4_makeOrder_106 ?_
          obtain ⟨h107, e107, hf⟩ := ob hf
          refine ev_cV_v i_X4_makeOrder_107 lk_X4_makeOrder_60 [.int ((1 : Int32) <<< (x7e102 &&& 31))] rfl rfl (by decide) (gK_of e107).1.1 (gK_of e107).1.2 (Nat.le_of_ble_eq_true rfl) (by decide) (e_X3_add e107) ?_
          refine ev_iload i_X4_makeOrder_110 rfl ?_
          refine ev_iconst i_X4_makeOrder_112 lt_i_1 ?_
          refine ev_iload i_X4_makeOrder_113 rfl ?_
          refine ev_ishl i_X4_makeOrder_115 ?_
          refine ev_ior i_X4_makeOrder_116 ?_
          refine ev_istore i_X4_makeOrder_117 (by decide) ?_
          refine ev_iinc (y := (x6 + (1 : Int32))) i_X4_makeOrder_119 rfl rfl (by decide) ?_
          refine ev_goto (tg := 43) i_X4_makeOrder_122 (by decide) ?_
          refine ev_sub (lc2 := [some (.ref a0), some (.ref a1), none, some (.int x3), some (.int (x4 ||| ((1 : Int32) <<< (x7e102 &&& 31)))), some (.int x5e102), some (.int (x6 + (1 : Int32))), none]) ⟨Or.inr rfl, Or.inr rfl, Or.inr rfl, Or.inr rfl, Or.inr rfl, Or.inr rfl, Or.inr rfl, Or.inl rfl, trivial⟩ ?_
          exact ih h107 (x4 ||| ((1 : Int32) <<< (x7e102 &&& 31))) x5e102 (x6 + (1 : Int32)) _ hf) fuel x5 (0 : Int32) _ hf
def f_X4_makeOrder (h : MH) (a0 : Nat) (a1 : Nat) (x2 : Int32) : Option (Int32 × MH) := gK h a0 4 ((gR h a0 4 1).bind fun b1 => (f_X0_findGood h b1).bind fun h4 => (gR h4 a0 4 0).bind fun b8 => (f_X1_unlike h4 b8).bind fun v11 => (if x2 < 0 then (some ((0 : Int32), h4)) else ((f_X4_findOrderings h4 a0 v11).bind fun r22 => (if x2 < r22.1 then ((f_X3_clear r22.2 a1).bind fun h31 => f_X4_makeOrder_L43 (fun he125 => some ((1 : Int32), he125)) a0 a1 v11 fuel h31 (0 : Int32) x2 (0 : Int32)) else (some ((0 : Int32), r22.2))))))
set_option maxRecDepth 20000 in
theorem e_X4_makeOrder {G : GG} {h : MH} {a0 : Nat} {a1 : Nat} {x2 : Int32} {r : (Int32 × MH)} (hf : f_X4_makeOrder h a0 a1 x2 = some r) : Ev G 6 M_X4_makeOrder 0 (ent M_X4_makeOrder [.ref a0, .ref a1, .int x2]) [] h (some (.int r.1)) r.2 := by
  unfold f_X4_makeOrder at hf
  show Ev G 6 M_X4_makeOrder 0 [some (.ref a0), some (.ref a1), some (.int x2), none, none, none, none, none] [] h (some (.int r.1)) r.2
  obtain ⟨-, hf⟩ := gK_of hf
  refine ev_aload_n i_X4_makeOrder_0 rfl ?_
  obtain ⟨b1, e1, hf⟩ := ob hf
  refine ev_gR i_X4_makeOrder_1 fl_X4_22 rfl e1 ?_
  obtain ⟨h4, e4, hf⟩ := ob hf
  refine ev_cV_v i_X4_makeOrder_4 lk_X4_makeOrder_26 [] rfl rfl (by decide) (gK_of e4).1.1 (gK_of e4).1.2 (Nat.le_of_ble_eq_true rfl) (by decide) (e_X0_findGood e4) ?_
  refine ev_aload_n i_X4_makeOrder_7 rfl ?_
  obtain ⟨b8, e8, hf⟩ := ob hf
  refine ev_gR i_X4_makeOrder_8 fl_X4_18 rfl e8 ?_
  obtain ⟨v11, e11, hf⟩ := ob hf
  refine ev_cV_i i_X4_makeOrder_11 lk_X4_makeOrder_39 [] rfl rfl (by decide) (gK_of e11).1.1 (gK_of e11).1.2 (Nat.le_of_ble_eq_true rfl) (by decide) (e_X1_unlike e11) ?_
  refine ev_istore_n i_X4_makeOrder_14 (by decide) ?_
  refine ev_iload_n i_X4_makeOrder_15 rfl ?_
  refine ev_if_lt (tg := 28) i_X4_makeOrder_16 (by decide) (fun c16 => ?_) (fun c16 => ?_)
  · rw [if_pos c16] at hf
    refine ev_iconst i_X4_makeOrder_28 lt_i_0 ?_
    cases hf
    exact ev_zret i_X4_makeOrder_29 rfl (by decide)
  · rw [if_neg c16] at hf
    refine ev_iload_n i_X4_makeOrder_19 rfl ?_
    refine ev_aload_n i_X4_makeOrder_20 rfl ?_
    refine ev_iload_n i_X4_makeOrder_21 rfl ?_
    obtain ⟨r22, e22, hf⟩ := ob hf
    refine ev_cV_i i_X4_makeOrder_22 lk_X4_makeOrder_64 [.int v11] rfl rfl (by decide) (gK_of e22).1.1 (gK_of e22).1.2 (Nat.le_of_ble_eq_true rfl) (by decide) (e_X4_findOrderings e22) ?_
    refine ev_icmp_lt (tg := 30) i_X4_makeOrder_25 (by decide) (fun c25 => ?_) (fun c25 => ?_)
    · rw [if_pos c25] at hf
      refine ev_aload_n i_X4_makeOrder_30 rfl ?_
      obtain ⟨h31, e31, hf⟩ := ob hf
      refine ev_cV_v i_X4_makeOrder_31 lk_X4_makeOrder_52 [] rfl rfl (by decide) (gK_of e31).1.1 (gK_of e31).1.2 (Nat.le_of_ble_eq_true rfl) (by decide) (e_X3_clear e31) ?_
      refine ev_iconst i_X4_makeOrder_34 lt_i_0 ?_
      refine ev_istore i_X4_makeOrder_35 (by decide) ?_
      refine ev_iload_n i_X4_makeOrder_37 rfl ?_
      refine ev_istore i_X4_makeOrder_38 (by decide) ?_
      refine ev_iconst i_X4_makeOrder_40 lt_i_0 ?_
      refine ev_istore i_X4_makeOrder_41 (by decide) ?_
      refine ev_sub (lc2 := [some (.ref a0), some (.ref a1), none, some (.int v11), some (.int (0 : Int32)), some (.int x2), some (.int (0 : Int32)), none]) ⟨Or.inr rfl, Or.inr rfl, Or.inl rfl, Or.inr rfl, Or.inr rfl, Or.inr rfl, Or.inr rfl, Or.inr rfl, trivial⟩ ?_
      exact l_X4_makeOrder_43 (fun he125 r hf => by
        refine ev_iconst i_X4_makeOrder_125 lt_i_1 ?_
        cases hf
        exact ev_zret i_X4_makeOrder_126 rfl (by decide)) fuel h31 (0 : Int32) x2 (0 : Int32) _ hf
    · rw [if_neg c25] at hf
      refine ev_iconst i_X4_makeOrder_28 lt_i_0 ?_
      cases hf
      exact ev_zret i_X4_makeOrder_29 rfl (by decide)
def f_X6_init_L31 (k58 : MH → Option MH) (a0 : Nat) : Nat → MH → Int32 → Option MH
  | 0, _, _ => none
  | n + 1, h, x4 => (if (40 : Int32) ≤ x4 then (k58 h) else ((gR h a0 6 3).bind fun b39 => (f_X2_init (mm_no h 2) (mm_N h)).bind fun h48 => (sR h48 b39 x4 (mm_N h)).bind fun h51 => f_X6_init_L31 k58 a0 n h51 (x4 + (1 : Int32))))
set_option maxRecDepth 20000 in
theorem l_X6_init_31 {G : GG} {k58 : MH → Option MH} {a0 : Nat} (hk58 : ∀ (hz : MH) (r : MH), k58 hz = some r → Ev G 3 M_X6_init 58 [none, none, none, none, none] [] hz none r) : ∀ (n : Nat) (h : MH) (x4 : Int32) (r : MH), f_X6_init_L31 k58 a0 n h x4 = some r → Ev G 3 M_X6_init 31 [some (.ref a0), none, none, none, some (.int x4)] [] h none r := by
  intro n
  induction n with
  | zero => intro h x4 r hf; rw [f_X6_init_L31] at hf; cases hf
  | succ n ih =>
    intro h x4 r hf
    rw [f_X6_init_L31] at hf
    refine ev_iload i_X6_init_31 rfl ?_
    refine ev_bipush i_X6_init_33 lt_b_40 ?_
    refine ev_icmp_ge (tg := 58) i_X6_init_35 (by decide) (fun c35 => ?_) (fun c35 => ?_)
    · rw [if_pos c35] at hf
      refine ev_sub (lc2 := [none, none, none, none, none]) ⟨Or.inl rfl, Or.inr rfl, Or.inr rfl, Or.inr rfl, Or.inl rfl, trivial⟩ ?_
      exact hk58 h _ hf
    · rw [if_neg c35] at hf
      refine ev_aload_n i_X6_init_38 rfl ?_
      obtain ⟨b39, e39, hf⟩ := ob hf
      refine ev_gR i_X6_init_39 fl_X6_11 rfl e39 ?_
      refine ev_iload i_X6_init_42 rfl ?_
      refine ev_new i_X6_init_44 nc_X6_9 ?_
      refine ev_dup i_X6_init_47 ?_
      obtain ⟨h48, e48, hf⟩ := ob hf
      refine ev_cI_v i_X6_init_48 lk_X6_init_29 [] rfl rfl (by decide) (Nat.le_of_ble_eq_true rfl) (by decide) (e_X2_init e48) ?_
      obtain ⟨h51, e51, hf⟩ := ob hf
      refine ev_sR i_X6_init_51 e51 ?_
      refine ev_iinc (y := (x4 + (1 : Int32))) i_X6_init_52 rfl rfl (by decide) ?_
      refine ev_goto (tg := 31) i_X6_init_55 (by decide) ?_
      exact ih h51 (x4 + (1 : Int32)) _ hf
def f_X6_init (h : MH) (a0 : Nat) (a1 : Nat) (a2 : Nat) (a3 : Nat) : Option MH := (pR (mm_na h 13 40) a0 6 3 (mm_N h)).bind fun h10 => (pR h10 a0 6 0 a1).bind fun h15 => (pR h15 a0 6 1 a2).bind fun h20 => (pR h20 a0 6 2 a3).bind fun h25 => f_X6_init_L31 (fun he58 => some he58) a0 fuel h25 (0 : Int32)
set_option maxRecDepth 20000 in
theorem e_X6_init {G : GG} {h : MH} {a0 : Nat} {a1 : Nat} {a2 : Nat} {a3 : Nat} {r : MH} (hf : f_X6_init h a0 a1 a2 a3 = some r) : Ev G 3 M_X6_init 0 (ent M_X6_init [.ref a0, .ref a1, .ref a2, .ref a3]) [] h none r := by
  unfold f_X6_init at hf
  show Ev G 3 M_X6_init 0 [some (.ref a0), some (.ref a1), some (.ref a2), some (.ref a3), none] [] h none r
  refine ev_aload_n i_X6_init_0 rfl ?_
  refine ev_objI i_X6_init_1 ml_X6_3 go_1 go_2 (Nat.le_of_ble_eq_true rfl) (by decide) ?_
  refine ev_aload_n i_X6_init_4 rfl ?_
  refine ev_bipush i_X6_init_5 lt_b_40 ?_
  refine ev_nAR (kd := 13) i_X6_init_7 (Or.inl ⟨rfl, rfl⟩) cw_X6_9 gao_X2 (by decide) (by decide : _ = 40) (by decide) ?_
  obtain ⟨h10, e10, hf⟩ := ob hf
  refine ev_pR i_X6_init_10 fp_X6_init_11 rfl e10 ?_
  refine ev_aload_n i_X6_init_13 rfl ?_
  refine ev_aload_n i_X6_init_14 rfl ?_
  obtain ⟨h15, e15, hf⟩ := ob hf
  refine ev_pR i_X6_init_15 fp_X6_init_17 rfl e15 ?_
  refine ev_aload_n i_X6_init_18 rfl ?_
  refine ev_aload_n i_X6_init_19 rfl ?_
  obtain ⟨h20, e20, hf⟩ := ob hf
  refine ev_pR i_X6_init_20 fp_X6_init_21 rfl e20 ?_
  refine ev_aload_n i_X6_init_23 rfl ?_
  refine ev_aload_n i_X6_init_24 rfl ?_
  obtain ⟨h25, e25, hf⟩ := ob hf
  refine ev_pR i_X6_init_25 fp_X6_init_25 rfl e25 ?_
  refine ev_iconst i_X6_init_28 lt_i_0 ?_
  refine ev_istore i_X6_init_29 (by decide) ?_
  refine ev_sub (lc2 := [some (.ref a0), none, none, none, some (.int (0 : Int32))]) ⟨Or.inr rfl, Or.inl rfl, Or.inl rfl, Or.inl rfl, Or.inr rfl, trivial⟩ ?_
  exact l_X6_init_31 (fun he58 r hf => by
    cases hf
    exact ev_vret i_X6_init_58 rfl) fuel h25 (0 : Int32) _ hf
def f_X6_start (h : MH) (a0 : Nat) : Option MH := gK h a0 6 ((pZ h a0 6 4 (1 : Int32)).bind fun h2 => (pI h2 a0 6 5 (0 : Int32)).bind fun h7 => (pI h7 a0 6 6 (0 : Int32)).bind fun h12 => (pI h12 a0 6 7 (0 : Int32)).bind fun h17 => (pI h17 a0 6 8 (0 : Int32)).bind fun h22 => (pI h22 a0 6 9 (0 : Int32)).bind fun h27 => some h27)
set_option maxRecDepth 20000 in
theorem e_X6_start {G : GG} {h : MH} {a0 : Nat} {r : MH} (hf : f_X6_start h a0 = some r) : Ev G 0 M_X6_start 0 (ent M_X6_start [.ref a0]) [] h none r := by
  unfold f_X6_start at hf
  show Ev G 0 M_X6_start 0 [some (.ref a0)] [] h none r
  obtain ⟨-, hf⟩ := gK_of hf
  refine ev_aload_n i_X6_start_0 rfl ?_
  refine ev_iconst i_X6_start_1 lt_i_1 ?_
  obtain ⟨h2, e2, hf⟩ := ob hf
  refine ev_pZ i_X6_start_2 fp_X6_start_30 rfl e2 ?_
  refine ev_aload_n i_X6_start_5 rfl ?_
  refine ev_iconst i_X6_start_6 lt_i_0 ?_
  obtain ⟨h7, e7, hf⟩ := ob hf
  refine ev_pI i_X6_start_7 fp_X6_start_34 rfl e7 ?_
  refine ev_aload_n i_X6_start_10 rfl ?_
  refine ev_iconst i_X6_start_11 lt_i_0 ?_
  obtain ⟨h12, e12, hf⟩ := ob hf
  refine ev_pI i_X6_start_12 fp_X6_start_38 rfl e12 ?_
  refine ev_aload_n i_X6_start_15 rfl ?_
  refine ev_iconst i_X6_start_16 lt_i_0 ?_
  obtain ⟨h17, e17, hf⟩ := ob hf
  refine ev_pI i_X6_start_17 fp_X6_start_41 rfl e17 ?_
  refine ev_aload_n i_X6_start_20 rfl ?_
  refine ev_iconst i_X6_start_21 lt_i_0 ?_
  obtain ⟨h22, e22, hf⟩ := ob hf
  refine ev_pI i_X6_start_22 fp_X6_start_44 rfl e22 ?_
  refine ev_aload_n i_X6_start_25 rfl ?_
  refine ev_iconst i_X6_start_26 lt_i_0 ?_
  obtain ⟨h27, e27, hf⟩ := ob hf
  refine ev_pI i_X6_start_27 fp_X6_start_47 rfl e27 ?_
  cases hf
  exact ev_vret i_X6_start_30 rfl
def f_X6_stop (h : MH) (a0 : Nat) : Option MH := gK h a0 6 ((pZ h a0 6 4 (0 : Int32)).bind fun h2 => some h2)
set_option maxRecDepth 20000 in
theorem e_X6_stop {G : GG} {h : MH} {a0 : Nat} {r : MH} (hf : f_X6_stop h a0 = some r) : Ev G 0 M_X6_stop 0 (ent M_X6_stop [.ref a0]) [] h none r := by
  unfold f_X6_stop at hf
  show Ev G 0 M_X6_stop 0 [some (.ref a0)] [] h none r
  obtain ⟨-, hf⟩ := gK_of hf
  refine ev_aload_n i_X6_stop_0 rfl ?_
  refine ev_iconst i_X6_stop_1 lt_i_0 ?_
  obtain ⟨h2, e2, hf⟩ := ob hf
  refine ev_pZ i_X6_stop_2 fp_X6_stop_30 rfl e2 ?_
  cases hf
  exact ev_vret i_X6_stop_5 rfl
def f_X6_isLive (h : MH) (a0 : Nat) : Option Int32 := gK h a0 6 ((gI h a0 6 4).bind fun v1 => zR v1)
set_option maxRecDepth 20000 in
theorem e_X6_isLive {G : GG} {h : MH} {a0 : Nat} {r : Int32} (hf : f_X6_isLive h a0 = some r) : Ev G 0 M_X6_isLive 0 (ent M_X6_isLive [.ref a0]) [] h (some (.int r)) h := by
  unfold f_X6_isLive at hf
  show Ev G 0 M_X6_isLive 0 [some (.ref a0)] [] h (some (.int r)) h
  obtain ⟨-, hf⟩ := gK_of hf
  refine ev_aload_n i_X6_isLive_0 rfl ?_
  obtain ⟨v1, e1, hf⟩ := ob hf
  refine ev_gI i_X6_isLive_1 fl_X6_30 rfl e1 ?_
  obtain ⟨hz, rfl⟩ := zR_of hf
  exact ev_zret i_X6_isLive_4 rfl hz
def f_X6_packetCount (h : MH) (a0 : Nat) : Option Int32 := gK h a0 6 ((gI h a0 6 7).bind fun v1 => some v1)
set_option maxRecDepth 20000 in
theorem e_X6_packetCount {G : GG} {h : MH} {a0 : Nat} {r : Int32} (hf : f_X6_packetCount h a0 = some r) : Ev G 0 M_X6_packetCount 0 (ent M_X6_packetCount [.ref a0]) [] h (some (.int r)) h := by
  unfold f_X6_packetCount at hf
  show Ev G 0 M_X6_packetCount 0 [some (.ref a0)] [] h (some (.int r)) h
  obtain ⟨-, hf⟩ := gK_of hf
  refine ev_aload_n i_X6_packetCount_0 rfl ?_
  obtain ⟨v1, e1, hf⟩ := ob hf
  refine ev_gI i_X6_packetCount_1 fl_X6_41 rfl e1 ?_
  cases hf
  exact ev_iiret i_X6_packetCount_4 rfl
def f_X6_packetOf (h : MH) (a0 : Nat) (x1 : Int32) : Option (Option Nat) := gK h a0 6 ((gI h a0 6 4).bind fun v1 => (if v1 = 0 then (some none) else ((if x1 < 0 then (some none) else ((gI h a0 6 7).bind fun v13 => (if v13 ≤ x1 then (some none) else ((gR h a0 6 3).bind fun b20 => (aR h b20 x1).bind fun b24 => some (some b24))))))))
set_option maxRecDepth 20000 in
theorem e_X6_packetOf {G : GG} {h : MH} {a0 : Nat} {x1 : Int32} {r : (Option Nat)} (hf : f_X6_packetOf h a0 x1 = some r) : Ev G 0 M_X6_packetOf 0 (ent M_X6_packetOf [.ref a0, .int x1]) [] h (some (va_rf r)) h := by
  unfold f_X6_packetOf at hf
  show Ev G 0 M_X6_packetOf 0 [some (.ref a0), some (.int x1)] [] h (some (va_rf r)) h
  obtain ⟨-, hf⟩ := gK_of hf
  refine ev_aload_n i_X6_packetOf_0 rfl ?_
  obtain ⟨v1, e1, hf⟩ := ob hf
  refine ev_gI i_X6_packetOf_1 fl_X6_30 rfl e1 ?_
  refine ev_if_eq (tg := 28) i_X6_packetOf_4 (by decide) (fun c4 => ?_) (fun c4 => ?_)
  · rw [if_pos c4] at hf
    refine ev_null i_X6_packetOf_28 ?_
    cases hf
    exact ev_aret i_X6_packetOf_29 rfl (Or.inl rfl)
  · rw [if_neg c4] at hf
    refine ev_iload_n i_X6_packetOf_7 rfl ?_
    refine ev_if_lt (tg := 28) i_X6_packetOf_8 (by decide) (fun c8 => ?_) (fun c8 => ?_)
    · rw [if_pos c8] at hf
      refine ev_null i_X6_packetOf_28 ?_
      cases hf
      exact ev_aret i_X6_packetOf_29 rfl (Or.inl rfl)
    · rw [if_neg c8] at hf
      refine ev_iload_n i_X6_packetOf_11 rfl ?_
      refine ev_aload_n i_X6_packetOf_12 rfl ?_
      obtain ⟨v13, e13, hf⟩ := ob hf
      refine ev_gI i_X6_packetOf_13 fl_X6_41 rfl e13 ?_
      refine ev_icmp_ge (tg := 28) i_X6_packetOf_16 (by decide) (fun c16 => ?_) (fun c16 => ?_)
      · rw [if_pos c16] at hf
        refine ev_null i_X6_packetOf_28 ?_
        cases hf
        exact ev_aret i_X6_packetOf_29 rfl (Or.inl rfl)
      · rw [if_neg c16] at hf
        refine ev_aload_n i_X6_packetOf_19 rfl ?_
        obtain ⟨b20, e20, hf⟩ := ob hf
        refine ev_gR i_X6_packetOf_20 fl_X6_11 rfl e20 ?_
        refine ev_iload_n i_X6_packetOf_23 rfl ?_
        obtain ⟨b24, e24, hf⟩ := ob hf
        refine ev_aR i_X6_packetOf_24 e24 ?_
        refine ev_goto (tg := 29) i_X6_packetOf_25 (by decide) ?_
        cases hf
        exact ev_aret i_X6_packetOf_29 rfl (Or.inr ⟨_, rfl⟩)
def f_X6_putIn (h : MH) (a0 : Nat) (x1 : Int32) (x2 : Int32) : Option (Int32 × MH) := gK h a0 6 ((gI h a0 6 7).bind fun v1 => (if v1 < (40 : Int32) then ((gR h a0 6 3).bind fun b12 => (gI h a0 6 7).bind fun v16 => (aR h b12 v16).bind fun b19 => (gR h a0 6 0).bind fun b23 => (f_X1_switchOf h b23 x1).bind fun v27 => (f_X2_putInAt h b19 x1 x2 v27).bind fun h30 => (gI h30 a0 6 7).bind fun v35 => (pI h30 a0 6 7 (v35 + (1 : Int32))).bind fun h40 => (gI h40 a0 6 8).bind fun v45 => (pI h40 a0 6 8 (v45 + (1 : Int32))).bind fun h50 => (gI h50 a0 6 7).bind fun v54 => some ((v54 - (1 : Int32)), h50)) else (some ((-1 : Int32), h))))
set_option maxRecDepth 20000 in
theorem e_X6_putIn {G : GG} {h : MH} {a0 : Nat} {x1 : Int32} {x2 : Int32} {r : (Int32 × MH)} (hf : f_X6_putIn h a0 x1 x2 = some r) : Ev G 2 M_X6_putIn 0 (ent M_X6_putIn [.ref a0, .int x1, .int x2]) [] h (some (.int r.1)) r.2 := by
  unfold f_X6_putIn at hf
  show Ev G 2 M_X6_putIn 0 [some (.ref a0), some (.int x1), some (.int x2)] [] h (some (.int r.1)) r.2
  obtain ⟨-, hf⟩ := gK_of hf
  refine ev_aload_n i_X6_putIn_0 rfl ?_
  obtain ⟨v1, e1, hf⟩ := ob hf
  refine ev_gI i_X6_putIn_1 fl_X6_41 rfl e1 ?_
  refine ev_bipush i_X6_putIn_4 lt_b_40 ?_
  refine ev_icmp_lt (tg := 11) i_X6_putIn_6 (by decide) (fun c6 => ?_) (fun c6 => ?_)
  · rw [if_pos c6] at hf
    refine ev_aload_n i_X6_putIn_11 rfl ?_
    obtain ⟨b12, e12, hf⟩ := ob hf
    refine ev_gR i_X6_putIn_12 fl_X6_11 rfl e12 ?_
    refine ev_aload_n i_X6_putIn_15 rfl ?_
    obtain ⟨v16, e16, hf⟩ := ob hf
    refine ev_gI i_X6_putIn_16 fl_X6_41 rfl e16 ?_
    obtain ⟨b19, e19, hf⟩ := ob hf
    refine ev_aR i_X6_putIn_19 e19 ?_
    refine ev_iload_n i_X6_putIn_20 rfl ?_
    refine ev_iload_n i_X6_putIn_21 rfl ?_
    refine ev_aload_n i_X6_putIn_22 rfl ?_
    obtain ⟨b23, e23, hf⟩ := ob hf
    refine ev_gR i_X6_putIn_23 fl_X6_17 rfl e23 ?_
    refine ev_iload_n i_X6_putIn_26 rfl ?_
    obtain ⟨v27, e27, hf⟩ := ob hf
    refine ev_cV_i i_X6_putIn_27 lk_X6_putIn_50 [.int x1] rfl rfl (by decide) (gK_of e27).1.1 (gK_of e27).1.2 (Nat.le_of_ble_eq_true rfl) (by decide) (e_X1_switchOf e27) ?_
    obtain ⟨h30, e30, hf⟩ := ob hf
    refine ev_cV_v i_X6_putIn_30 lk_X6_putIn_56 [.int x1, .int x2, .int v27] rfl rfl (by decide) (gK_of e30).1.1 (gK_of e30).1.2 (Nat.le_of_ble_eq_true rfl) (by decide) (e_X2_putInAt e30) ?_
    refine ev_aload_n i_X6_putIn_33 rfl ?_
    refine ev_dup i_X6_putIn_34 ?_
    obtain ⟨v35, e35, hf⟩ := ob hf
    refine ev_gI i_X6_putIn_35 fl_X6_41 rfl e35 ?_
    refine ev_iconst i_X6_putIn_38 lt_i_1 ?_
    refine ev_iadd i_X6_putIn_39 ?_
    obtain ⟨h40, e40, hf⟩ := ob hf
    refine ev_pI i_X6_putIn_40 fp_X6_putIn_41 rfl e40 ?_
    refine ev_aload_n i_X6_putIn_43 rfl ?_
    refine ev_dup i_X6_putIn_44 ?_
    obtain ⟨v45, e45, hf⟩ := ob hf
    refine ev_gI i_X6_putIn_45 fl_X6_44 rfl e45 ?_
    refine ev_iconst i_X6_putIn_48 lt_i_1 ?_
    refine ev_iadd i_X6_putIn_49 ?_
    obtain ⟨h50, e50, hf⟩ := ob hf
    refine ev_pI i_X6_putIn_50 fp_X6_putIn_44 rfl e50 ?_
    refine ev_aload_n i_X6_putIn_53 rfl ?_
    obtain ⟨v54, e54, hf⟩ := ob hf
    refine ev_gI i_X6_putIn_54 fl_X6_41 rfl e54 ?_
    refine ev_iconst i_X6_putIn_57 lt_i_1 ?_
    refine ev_isub i_X6_putIn_58 ?_
    cases hf
    exact ev_iiret i_X6_putIn_59 rfl
  · rw [if_neg c6] at hf
    refine ev_iconst i_X6_putIn_9 lt_i_m1 ?_
    cases hf
    exact ev_iiret i_X6_putIn_10 rfl
def f_X6_moveOn (h : MH) (a0 : Nat) (a1 : Nat) : Option MH := gK h a0 6 ((gR h a1 2 0).bind fun b1 => (gR h a0 6 0).bind fun b5 => (f_X2_place h a1).bind fun v9 => (gI h a0 6 6).bind fun v13 => (gI h a1 2 2).bind fun v17 => (f_X1_whereTo h b5 v9 v13 v17).bind fun v20 => (f_X8_goOn h b1 v20).bind fun h23 => (f_X2_isUnderWay h23 a1).bind fun v27 => (if v27 = 0 then ((gI h23 a0 6 8).bind fun v35 => (pI h23 a0 6 8 (v35 - (1 : Int32))).bind fun h40 => (gI h40 a0 6 9).bind fun v45 => (gR h40 a0 6 1).bind fun b49 => (gI h40 a1 2 1).bind fun v53 => (gI h40 a1 2 2).bind fun v57 => (gR h40 a1 2 0).bind fun b61 => (f_X0_countBroken h40 b49 v53 v57 b61).bind fun r64 => (pI r64.2 a0 6 9 (v45 + r64.1)).bind fun h68 => some h68) else (some h23)))
set_option maxRecDepth 20000 in
theorem e_X6_moveOn {G : GG} {h : MH} {a0 : Nat} {a1 : Nat} {r : MH} (hf : f_X6_moveOn h a0 a1 = some r) : Ev G 6 M_X6_moveOn 0 (ent M_X6_moveOn [.ref a0, .ref a1]) [] h none r := by
  unfold f_X6_moveOn at hf
  show Ev G 6 M_X6_moveOn 0 [some (.ref a0), some (.ref a1)] [] h none r
  obtain ⟨-, hf⟩ := gK_of hf
  refine ev_aload_n i_X6_moveOn_0 rfl ?_
  obtain ⟨b1, e1, hf⟩ := ob hf
  refine ev_gR i_X6_moveOn_1 fl_X6_60 rfl e1 ?_
  refine ev_aload_n i_X6_moveOn_4 rfl ?_
  obtain ⟨b5, e5, hf⟩ := ob hf
  refine ev_gR i_X6_moveOn_5 fl_X6_17 rfl e5 ?_
  refine ev_aload_n i_X6_moveOn_8 rfl ?_
  obtain ⟨v9, e9, hf⟩ := ob hf
  refine ev_cV_i i_X6_moveOn_9 lk_X6_moveOn_64 [] rfl rfl (by decide) (gK_of e9).1.1 (gK_of e9).1.2 (Nat.le_of_ble_eq_true rfl) (by decide) (e_X2_place e9) ?_
  refine ev_aload_n i_X6_moveOn_12 rfl ?_
  obtain ⟨v13, e13, hf⟩ := ob hf
  refine ev_gI i_X6_moveOn_13 fl_X6_38 rfl e13 ?_
  refine ev_aload_n i_X6_moveOn_16 rfl ?_
  obtain ⟨v17, e17, hf⟩ := ob hf
  refine ev_gI i_X6_moveOn_17 fl_X6_68 rfl e17 ?_
  obtain ⟨v20, e20, hf⟩ := ob hf
  refine ev_cV_i i_X6_moveOn_20 lk_X6_moveOn_71 [.int v9, .int v13, .int v17] rfl rfl (by decide) (gK_of e20).1.1 (gK_of e20).1.2 (Nat.le_of_ble_eq_true rfl) (by decide) (e_X1_whereTo e20) ?_
  obtain ⟨h23, e23, hf⟩ := ob hf
  refine ev_cV_v i_X6_moveOn_23 lk_X6_moveOn_75 [.int v20] rfl rfl (by decide) (gK_of e23).1.1 (gK_of e23).1.2 (Nat.le_of_ble_eq_true rfl) (by decide) (e_X8_goOn e23) ?_
  refine ev_aload_n i_X6_moveOn_26 rfl ?_
  obtain ⟨v27, e27, hf⟩ := ob hf
  refine ev_cV_i i_X6_moveOn_27 lk_X6_moveOn_81 [] rfl rfl (by decide) (gK_of e27).1.1 (gK_of e27).1.2 (Nat.le_of_ble_eq_true rfl) (by decide) (e_X2_isUnderWay e27) ?_
  refine ev_if_ne (tg := 71) i_X6_moveOn_30 (by decide) (fun c30 => ?_) (fun c30 => ?_)
  · rw [if_neg c30] at hf
    cases hf
    exact ev_vret i_X6_moveOn_71 rfl
  · rw [if_pos c30] at hf
    refine ev_aload_n i_X6_moveOn_33 rfl ?_
    refine ev_dup i_X6_moveOn_34 ?_
    obtain ⟨v35, e35, hf⟩ := ob hf
    refine ev_gI i_X6_moveOn_35 fl_X6_44 rfl e35 ?_
    refine ev_iconst i_X6_moveOn_38 lt_i_1 ?_
    refine ev_isub i_X6_moveOn_39 ?_
    obtain ⟨h40, e40, hf⟩ := ob hf
    refine ev_pI i_X6_moveOn_40 fp_X6_moveOn_44 rfl e40 ?_
    refine ev_aload_n i_X6_moveOn_43 rfl ?_
    refine ev_dup i_X6_moveOn_44 ?_
    obtain ⟨v45, e45, hf⟩ := ob hf
    refine ev_gI i_X6_moveOn_45 fl_X6_47 rfl e45 ?_
    refine ev_aload_n i_X6_moveOn_48 rfl ?_
    obtain ⟨b49, e49, hf⟩ := ob hf
    refine ev_gR i_X6_moveOn_49 fl_X6_21 rfl e49 ?_
    refine ev_aload_n i_X6_moveOn_52 rfl ?_
    obtain ⟨v53, e53, hf⟩ := ob hf
    refine ev_gI i_X6_moveOn_53 fl_X6_85 rfl e53 ?_
    refine ev_aload_n i_X6_moveOn_56 rfl ?_
    obtain ⟨v57, e57, hf⟩ := ob hf
    refine ev_gI i_X6_moveOn_57 fl_X6_68 rfl e57 ?_
    refine ev_aload_n i_X6_moveOn_60 rfl ?_
    obtain ⟨b61, e61, hf⟩ := ob hf
    refine ev_gR i_X6_moveOn_61 fl_X6_60 rfl e61 ?_
    obtain ⟨r64, e64, hf⟩ := ob hf
    refine ev_cV_i i_X6_moveOn_64 lk_X6_moveOn_88 [.int v53, .int v57, .ref b61] rfl rfl (by decide) (gK_of e64).1.1 (gK_of e64).1.2 (Nat.le_of_ble_eq_true rfl) (by decide) (e_X0_countBroken e64) ?_
    refine ev_iadd i_X6_moveOn_67 ?_
    obtain ⟨h68, e68, hf⟩ := ob hf
    refine ev_pI i_X6_moveOn_68 fp_X6_moveOn_47 rfl e68 ?_
    cases hf
    exact ev_vret i_X6_moveOn_71 rfl
def f_X6_left (h : MH) (a0 : Nat) : Option Int32 := gK h a0 6 ((gR h a0 6 2).bind fun b1 => (gI h a0 6 5).bind fun v5 => (f_X3_get h b1 v5).bind fun v8 => (gI h a0 6 6).bind fun v12 => some (v8 &&& (v12 ^^^ (-1 : Int32))))
set_option maxRecDepth 20000 in
theorem e_X6_left {G : GG} {h : MH} {a0 : Nat} {r : Int32} (hf : f_X6_left h a0 = some r) : Ev G 2 M_X6_left 0 (ent M_X6_left [.ref a0]) [] h (some (.int r)) h := by
  unfold f_X6_left at hf
  show Ev G 2 M_X6_left 0 [some (.ref a0)] [] h (some (.int r)) h
  obtain ⟨-, hf⟩ := gK_of hf
  refine ev_aload_n i_X6_left_0 rfl ?_
  obtain ⟨b1, e1, hf⟩ := ob hf
  refine ev_gR i_X6_left_1 fl_X6_25 rfl e1 ?_
  refine ev_aload_n i_X6_left_4 rfl ?_
  obtain ⟨v5, e5, hf⟩ := ob hf
  refine ev_gI i_X6_left_5 fl_X6_34 rfl e5 ?_
  obtain ⟨v8, e8, hf⟩ := ob hf
  refine ev_cV_i i_X6_left_8 lk_X6_left_111 [.int v5] rfl rfl (by decide) (gK_of e8).1.1 (gK_of e8).1.2 (Nat.le_of_ble_eq_true rfl) (by decide) (e_X3_get e8) ?_
  refine ev_aload_n i_X6_left_11 rfl ?_
  obtain ⟨v12, e12, hf⟩ := ob hf
  refine ev_gI i_X6_left_12 fl_X6_38 rfl e12 ?_
  refine ev_iconst i_X6_left_15 lt_i_m1 ?_
  refine ev_ixor i_X6_left_16 ?_
  refine ev_iand i_X6_left_17 ?_
  cases hf
  exact ev_iiret i_X6_left_18 rfl
def f_X6_takeNew (h : MH) (a0 : Nat) (x1 : Int32) : Option (Int32 × MH) := gK h a0 6 ((gI h a0 6 4).bind fun v1 => (if v1 = 0 then (some ((-1 : Int32), h)) else ((gR h a0 6 0).bind fun b8 => (f_X1_hasSwitch h b8 x1).bind fun v12 => (if v12 = 0 then (some ((-1 : Int32), h)) else ((f_X6_left h a0).bind fun v19 => (if ((v19 >>> (x1 &&& 31)) &&& (1 : Int32)) = 0 then (some ((-1 : Int32), h)) else ((gI h a0 6 6).bind fun v33 => (pI h a0 6 6 (v33 ||| ((1 : Int32) <<< (x1 &&& 31)))).bind fun h40 => (f_X6_left h40 a0).bind fun v44 => (f_J6_bitCount_0f7a4 h40 v44).bind fun v47 => some (v47, h40))))))))
set_option maxRecDepth 20000 in
theorem e_X6_takeNew {G : GG} {h : MH} {a0 : Nat} {x1 : Int32} {r : (Int32 × MH)} (hf : f_X6_takeNew h a0 x1 = some r) : Ev G 3 M_X6_takeNew 0 (ent M_X6_takeNew [.ref a0, .int x1]) [] h (some (.int r.1)) r.2 := by
  unfold f_X6_takeNew at hf
  show Ev G 3 M_X6_takeNew 0 [some (.ref a0), some (.int x1)] [] h (some (.int r.1)) r.2
  obtain ⟨-, hf⟩ := gK_of hf
  refine ev_aload_n i_X6_takeNew_0 rfl ?_
  obtain ⟨v1, e1, hf⟩ := ob hf
  refine ev_gI i_X6_takeNew_1 fl_X6_30 rfl e1 ?_
  refine ev_if_eq (tg := 29) i_X6_takeNew_4 (by decide) (fun c4 => ?_) (fun c4 => ?_)
  · rw [if_pos c4] at hf
    refine ev_iconst i_X6_takeNew_29 lt_i_m1 ?_
    cases hf
    exact ev_iiret i_X6_takeNew_30 rfl
  · rw [if_neg c4] at hf
    refine ev_aload_n i_X6_takeNew_7 rfl ?_
    obtain ⟨b8, e8, hf⟩ := ob hf
    refine ev_gR i_X6_takeNew_8 fl_X6_17 rfl e8 ?_
    refine ev_iload_n i_X6_takeNew_11 rfl ?_
    obtain ⟨v12, e12, hf⟩ := ob hf
    refine ev_cV_i i_X6_takeNew_12 lk_X6_takeNew_94 [.int x1] rfl rfl (by decide) (gK_of e12).1.1 (gK_of e12).1.2 (Nat.le_of_ble_eq_true rfl) (by decide) (e_X1_hasSwitch e12) ?_
    refine ev_if_eq (tg := 29) i_X6_takeNew_15 (by decide) (fun c15 => ?_) (fun c15 => ?_)
    · rw [if_pos c15] at hf
      refine ev_iconst i_X6_takeNew_29 lt_i_m1 ?_
      cases hf
      exact ev_iiret i_X6_takeNew_30 rfl
    · rw [if_neg c15] at hf
      refine ev_aload_n i_X6_takeNew_18 rfl ?_
      obtain ⟨v19, e19, hf⟩ := ob hf
      refine ev_cV_i i_X6_takeNew_19 lk_X6_takeNew_98 [] rfl rfl (by decide) (gK_of e19).1.1 (gK_of e19).1.2 (Nat.le_of_ble_eq_true rfl) (by decide) (e_X6_left e19) ?_
      refine ev_iload_n i_X6_takeNew_22 rfl ?_
      refine ev_ishr i_X6_takeNew_23 ?_
      refine ev_iconst i_X6_takeNew_24 lt_i_1 ?_
      refine ev_iand i_X6_takeNew_25 ?_
      refine ev_if_ne (tg := 31) i_X6_takeNew_26 (by decide) (fun c26 => ?_) (fun c26 => ?_)
      · rw [if_neg c26] at hf
        refine ev_aload_n i_X6_takeNew_31 rfl ?_
        refine ev_dup i_X6_takeNew_32 ?_
        obtain ⟨v33, e33, hf⟩ := ob hf
        refine ev_gI i_X6_takeNew_33 fl_X6_38 rfl e33 ?_
        refine ev_iconst i_X6_takeNew_36 lt_i_1 ?_
        refine ev_iload_n i_X6_takeNew_37 rfl ?_
        refine ev_ishl i_X6_takeNew_38 ?_
        refine ev_ior i_X6_takeNew_39 ?_
        obtain ⟨h40, e40, hf⟩ := ob hf
        refine ev_pI i_X6_takeNew_40 fp_X6_takeNew_38 rfl e40 ?_
        refine ev_aload_n i_X6_takeNew_43 rfl ?_
        obtain ⟨v44, e44, hf⟩ := ob hf
        refine ev_cV_i i_X6_takeNew_44 lk_X6_takeNew_98 [] rfl rfl (by decide) (gK_of e44).1.1 (gK_of e44).1.2 (Nat.le_of_ble_eq_true rfl) (by decide) (e_X6_left e44) ?_
        obtain ⟨v47, e47, hf⟩ := ob hf
        refine ev_cS_i i_X6_takeNew_47 lk_X6_takeNew_101 [.int v44] rfl rfl (by decide) (Nat.le_of_ble_eq_true rfl) (by decide) (e_J6_bitCount_0f7a4 e47) ?_
        cases hf
        exact ev_iiret i_X6_takeNew_50 rfl
      · rw [if_pos c26] at hf
        refine ev_iconst i_X6_takeNew_29 lt_i_m1 ?_
        cases hf
        exact ev_iiret i_X6_takeNew_30 rfl
def f_X6_nextRound (h : MH) (a0 : Nat) : Option (Int32 × MH) := gK h a0 6 ((gI h a0 6 4).bind fun v1 => (if v1 = 0 then (some ((-1 : Int32), h)) else ((gR h a0 6 2).bind fun b8 => (gI h a0 6 5).bind fun v12 => (f_X3_has h b8 v12).bind fun v15 => (if v15 = 0 then (some ((-1 : Int32), h)) else ((f_X6_left h a0).bind fun v22 => (if v22 = 0 then ((gI h a0 6 8).bind fun v29 => (if v29 = 0 then ((gI h a0 6 5).bind fun v39 => (pI h a0 6 5 (v39 + (1 : Int32))).bind fun h44 => (gI h44 a0 6 5).bind fun v48 => some (v48, h44)) else (some ((-1 : Int32), h)))) else (some ((-1 : Int32), h))))))))
set_option maxRecDepth 20000 in
theorem e_X6_nextRound {G : GG} {h : MH} {a0 : Nat} {r : (Int32 × MH)} (hf : f_X6_nextRound h a0 = some r) : Ev G 3 M_X6_nextRound 0 (ent M_X6_nextRound [.ref a0]) [] h (some (.int r.1)) r.2 := by
  unfold f_X6_nextRound at hf
  show Ev G 3 M_X6_nextRound 0 [some (.ref a0)] [] h (some (.int r.1)) r.2
  obtain ⟨-, hf⟩ := gK_of hf
  refine ev_aload_n i_X6_nextRound_0 rfl ?_
  obtain ⟨v1, e1, hf⟩ := ob hf
  refine ev_gI i_X6_nextRound_1 fl_X6_30 rfl e1 ?_
  refine ev_if_eq (tg := 35) i_X6_nextRound_4 (by decide) (fun c4 => ?_) (fun c4 => ?_)
  · rw [if_pos c4] at hf
    refine ev_iconst i_X6_nextRound_35 lt_i_m1 ?_
    cases hf
    exact ev_iiret i_X6_nextRound_36 rfl
  · rw [if_neg c4] at hf
    refine ev_aload_n i_X6_nextRound_7 rfl ?_
    obtain ⟨b8, e8, hf⟩ := ob hf
    refine ev_gR i_X6_nextRound_8 fl_X6_25 rfl e8 ?_
    refine ev_aload_n i_X6_nextRound_11 rfl ?_
    obtain ⟨v12, e12, hf⟩ := ob hf
    refine ev_gI i_X6_nextRound_12 fl_X6_34 rfl e12 ?_
    obtain ⟨v15, e15, hf⟩ := ob hf
    refine ev_cV_i i_X6_nextRound_15 lk_X6_nextRound_106 [.int v12] rfl rfl (by decide) (gK_of e15).1.1 (gK_of e15).1.2 (Nat.le_of_ble_eq_true rfl) (by decide) (e_X3_has e15) ?_
    refine ev_if_eq (tg := 35) i_X6_nextRound_18 (by decide) (fun c18 => ?_) (fun c18 => ?_)
    · rw [if_pos c18] at hf
      refine ev_iconst i_X6_nextRound_35 lt_i_m1 ?_
      cases hf
      exact ev_iiret i_X6_nextRound_36 rfl
    · rw [if_neg c18] at hf
      refine ev_aload_n i_X6_nextRound_21 rfl ?_
      obtain ⟨v22, e22, hf⟩ := ob hf
      refine ev_cV_i i_X6_nextRound_22 lk_X6_nextRound_98 [] rfl rfl (by decide) (gK_of e22).1.1 (gK_of e22).1.2 (Nat.le_of_ble_eq_true rfl) (by decide) (e_X6_left e22) ?_
      refine ev_if_ne (tg := 35) i_X6_nextRound_25 (by decide) (fun c25 => ?_) (fun c25 => ?_)
      · rw [if_neg c25] at hf
        refine ev_iconst i_X6_nextRound_35 lt_i_m1 ?_
        cases hf
        exact ev_iiret i_X6_nextRound_36 rfl
      · rw [if_pos c25] at hf
        refine ev_aload_n i_X6_nextRound_28 rfl ?_
        obtain ⟨v29, e29, hf⟩ := ob hf
        refine ev_gI i_X6_nextRound_29 fl_X6_44 rfl e29 ?_
        refine ev_if_eq (tg := 37) i_X6_nextRound_32 (by decide) (fun c32 => ?_) (fun c32 => ?_)
        · rw [if_pos c32] at hf
          refine ev_aload_n i_X6_nextRound_37 rfl ?_
          refine ev_dup i_X6_nextRound_38 ?_
          obtain ⟨v39, e39, hf⟩ := ob hf
          refine ev_gI i_X6_nextRound_39 fl_X6_34 rfl e39 ?_
          refine ev_iconst i_X6_nextRound_42 lt_i_1 ?_
          refine ev_iadd i_X6_nextRound_43 ?_
          obtain ⟨h44, e44, hf⟩ := ob hf
          refine ev_pI i_X6_nextRound_44 fp_X6_nextRound_34 rfl e44 ?_
          refine ev_aload_n i_X6_nextRound_47 rfl ?_
          obtain ⟨v48, e48, hf⟩ := ob hf
          refine ev_gI i_X6_nextRound_48 fl_X6_34 rfl e48 ?_
          cases hf
          exact ev_iiret i_X6_nextRound_51 rfl
        · rw [if_neg c32] at hf
          refine ev_iconst i_X6_nextRound_35 lt_i_m1 ?_
          cases hf
          exact ev_iiret i_X6_nextRound_36 rfl
def f_X6_tell (h : MH) (a0 : Nat) (x1 : Int32) : Option Int32 := gK h a0 6 ((gI h a0 6 4).bind fun v1 => (if v1 = 0 then (some (-1 : Int32)) else ((if x1 = 0 then ((gI h a0 6 5).bind fun v45 => some v45) else (if x1 = 1 then ((gI h a0 6 6).bind fun v50 => some v50) else (if x1 = 2 then ((gI h a0 6 7).bind fun v55 => some v55) else (if x1 = 3 then ((gI h a0 6 8).bind fun v60 => some v60) else (if x1 = 4 then ((gI h a0 6 9).bind fun v65 => some v65) else (some (-1 : Int32))))))))))
set_option maxRecDepth 20000 in
theorem e_X6_tell {G : GG} {h : MH} {a0 : Nat} {x1 : Int32} {r : Int32} (hf : f_X6_tell h a0 x1 = some r) : Ev G 0 M_X6_tell 0 (ent M_X6_tell [.ref a0, .int x1]) [] h (some (.int r)) h := by
  unfold f_X6_tell at hf
  show Ev G 0 M_X6_tell 0 [some (.ref a0), some (.int x1)] [] h (some (.int r)) h
  obtain ⟨-, hf⟩ := gK_of hf
  refine ev_aload_n i_X6_tell_0 rfl ?_
  obtain ⟨v1, e1, hf⟩ := ob hf
  refine ev_gI i_X6_tell_1 fl_X6_30 rfl e1 ?_
  refine ev_if_ne (tg := 9) i_X6_tell_4 (by decide) (fun c4 => ?_) (fun c4 => ?_)
  · rw [if_neg c4] at hf
    refine ev_iload_n i_X6_tell_9 rfl ?_
    by_cases c10_0 : x1 = 0
    · rw [if_pos c10_0] at hf
      refine ev_ts (tg := 44) 0 34 i_X6_tell_10 c10_0 (by decide) ?_
      refine ev_aload_n i_X6_tell_44 rfl ?_
      obtain ⟨v45, e45, hf⟩ := ob hf
      refine ev_gI i_X6_tell_45 fl_X6_34 rfl e45 ?_
      cases hf
      exact ev_iiret i_X6_tell_48 rfl
    rw [if_neg c10_0] at hf
    by_cases c10_1 : x1 = 1
    · rw [if_pos c10_1] at hf
      refine ev_ts (tg := 49) 1 39 i_X6_tell_10 c10_1 (by decide) ?_
      refine ev_aload_n i_X6_tell_49 rfl ?_
      obtain ⟨v50, e50, hf⟩ := ob hf
      refine ev_gI i_X6_tell_50 fl_X6_38 rfl e50 ?_
      cases hf
      exact ev_iiret i_X6_tell_53 rfl
    rw [if_neg c10_1] at hf
    by_cases c10_2 : x1 = 2
    · rw [if_pos c10_2] at hf
      refine ev_ts (tg := 54) 2 44 i_X6_tell_10 c10_2 (by decide) ?_
      refine ev_aload_n i_X6_tell_54 rfl ?_
      obtain ⟨v55, e55, hf⟩ := ob hf
      refine ev_gI i_X6_tell_55 fl_X6_41 rfl e55 ?_
      cases hf
      exact ev_iiret i_X6_tell_58 rfl
    rw [if_neg c10_2] at hf
    by_cases c10_3 : x1 = 3
    · rw [if_pos c10_3] at hf
      refine ev_ts (tg := 59) 3 49 i_X6_tell_10 c10_3 (by decide) ?_
      refine ev_aload_n i_X6_tell_59 rfl ?_
      obtain ⟨v60, e60, hf⟩ := ob hf
      refine ev_gI i_X6_tell_60 fl_X6_44 rfl e60 ?_
      cases hf
      exact ev_iiret i_X6_tell_63 rfl
    rw [if_neg c10_3] at hf
    by_cases c10_4 : x1 = 4
    · rw [if_pos c10_4] at hf
      refine ev_ts (tg := 64) 4 54 i_X6_tell_10 c10_4 (by decide) ?_
      refine ev_aload_n i_X6_tell_64 rfl ?_
      obtain ⟨v65, e65, hf⟩ := ob hf
      refine ev_gI i_X6_tell_65 fl_X6_47 rfl e65 ?_
      cases hf
      exact ev_iiret i_X6_tell_68 rfl
    rw [if_neg c10_4] at hf
    refine ev_tsOut (tg := 69) i_X6_tell_10 (ts_out (n := 4) (by decide) (fun k hk => by rcases (show k = 0 ∨ k = 1 ∨ k = 2 ∨ k = 3 ∨ k = 4 by omega) with rfl | rfl | rfl | rfl | rfl <;> assumption)) (by decide) ?_
    refine ev_iconst i_X6_tell_69 lt_i_m1 ?_
    cases hf
    exact ev_iiret i_X6_tell_70 rfl
  · rw [if_pos c4] at hf
    refine ev_iconst i_X6_tell_7 lt_i_m1 ?_
    cases hf
    exact ev_iiret i_X6_tell_8 rfl

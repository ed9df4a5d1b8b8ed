/-! ===== methods as functions ===== -/
def f_X10_changed (h : MH) (a0 : Nat) : Option MH := gK h a0 10 ((pZ h a0 10 21 (0 : Int32)).bind fun h2 => (pI h2 a0 10 24 (0 : Int32)).bind fun h7 => (pZ h7 a0 10 28 (0 : Int32)).bind fun h12 => some h12)
set_option maxRecDepth 20000 in
theorem e_X10_changed {G : GG} {h : MH} {a0 : Nat} {r : MH} (hf : f_X10_changed h a0 = some r) : Ev G 0 M_X10_changed 0 (ent M_X10_changed [.ref a0]) [] h none r := by
  unfold f_X10_changed at hf
  show Ev G 0 M_X10_changed 0 [some (.ref a0)] [] h none r
  obtain ⟨-, hf⟩ := gK_of hf
  refine ev_aload_n i_X10_changed_0 rfl ?_
  refine ev_iconst i_X10_changed_1 lt_i_0 ?_
  obtain ⟨h2, e2, hf⟩ := ob hf
  refine ev_pZ i_X10_changed_2 fp_X10_changed_158 rfl e2 ?_
  refine ev_aload_n i_X10_changed_5 rfl ?_
  refine ev_iconst i_X10_changed_6 lt_i_0 ?_
  obtain ⟨h7, e7, hf⟩ := ob hf
  refine ev_pI i_X10_changed_7 fp_X10_changed_162 rfl e7 ?_
  refine ev_aload_n i_X10_changed_10 rfl ?_
  refine ev_iconst i_X10_changed_11 lt_i_0 ?_
  obtain ⟨h12, e12, hf⟩ := ob hf
  refine ev_pZ i_X10_changed_12 fp_X10_changed_165 rfl e12 ?_
  cases hf
  exact ev_vret i_X10_changed_15 rfl
def f_X10_clear_L17 (k36 : MH → Option MH) (a0 : Nat) : Nat → MH → Int32 → Option MH
  | 0, _, _ => none
  | n + 1, h, x2 => (if (28 : Int32) ≤ x2 then (k36 h) else ((gR h a0 10 3).bind fun b24 => (sI h b24 x2 (0 : Int32)).bind fun h29 => f_X10_clear_L17 k36 a0 n h29 (x2 + (1 : Int32))))
set_option maxRecDepth 20000 in
theorem l_X10_clear_17 {G : GG} {k36 : MH → Option MH} {a0 : Nat} (hk36 : ∀ (hz : MH) (r : MH), k36 hz = some r → Ev G 1 M_X10_clear 36 [some (.ref a0), none, none] [] hz none r) : ∀ (n : Nat) (h : MH) (x2 : Int32) (r : MH), f_X10_clear_L17 k36 a0 n h x2 = some r → Ev G 1 M_X10_clear 17 [some (.ref a0), none, some (.int x2)] [] h none r := by
  intro n
  induction n with
  | zero => intro h x2 r hf; rw [f_X10_clear_L17] at hf; cases hf
  | succ n ih =>
    intro h x2 r hf
    rw [f_X10_clear_L17] at hf
    refine ev_iload_n i_X10_clear_17 rfl ?_
    refine ev_bipush i_X10_clear_18 lt_b_28 ?_
    refine ev_icmp_ge (tg := 36) i_X10_clear_20 (by decide) (fun c20 => ?_) (fun c20 => ?_)
    · rw [if_pos c20] at hf
      refine ev_sub (lc2 := [some (.ref a0), none, none]) ⟨Or.inr rfl, Or.inr rfl, Or.inl rfl, trivial⟩ ?_
      exact hk36 h _ hf
    · rw [if_neg c20] at hf
      refine ev_aload_n i_X10_clear_23 rfl ?_
      obtain ⟨b24, e24, hf⟩ := ob hf
      refine ev_gR i_X10_clear_24 fl_X10_7 rfl e24 ?_
      refine ev_iload_n i_X10_clear_27 rfl ?_
      refine ev_iconst i_X10_clear_28 lt_i_0 ?_
      obtain ⟨h29, e29, hf⟩ := ob hf
      refine ev_sI i_X10_clear_29 e29 ?_
      refine ev_iinc (y := (x2 + (1 : Int32))) i_X10_clear_30 rfl rfl (by decide) ?_
      refine ev_goto (tg := 17) i_X10_clear_33 (by decide) ?_
      exact ih h29 (x2 + (1 : Int32)) _ hf
def f_X10_clear_L38 (k57 : MH → Option MH) (a0 : Nat) : Nat → MH → Int32 → Option MH
  | 0, _, _ => none
  | n + 1, h, x2 => (if (14 : Int32) ≤ x2 then (k57 h) else ((gR h a0 10 6).bind fun b45 => (sI h b45 x2 (0 : Int32)).bind fun h50 => f_X10_clear_L38 k57 a0 n h50 (x2 + (1 : Int32))))
set_option maxRecDepth 20000 in
theorem l_X10_clear_38 {G : GG} {k57 : MH → Option MH} {a0 : Nat} (hk57 : ∀ (hz : MH) (r : MH), k57 hz = some r → Ev G 1 M_X10_clear 57 [some (.ref a0), none, none] [] hz none r) : ∀ (n : Nat) (h : MH) (x2 : Int32) (r : MH), f_X10_clear_L38 k57 a0 n h x2 = some r → Ev G 1 M_X10_clear 38 [some (.ref a0), none, some (.int x2)] [] h none r := by
  intro n
  induction n with
  | zero => intro h x2 r hf; rw [f_X10_clear_L38] at hf; cases hf
  | succ n ih =>
    intro h x2 r hf
    rw [f_X10_clear_L38] at hf
    refine ev_iload_n i_X10_clear_38 rfl ?_
    refine ev_bipush i_X10_clear_39 lt_b_14 ?_
    refine ev_icmp_ge (tg := 57) i_X10_clear_41 (by decide) (fun c41 => ?_) (fun c41 => ?_)
    · rw [if_pos c41] at hf
      refine ev_sub (lc2 := [some (.ref a0), none, none]) ⟨Or.inr rfl, Or.inr rfl, Or.inl rfl, trivial⟩ ?_
      exact hk57 h _ hf
    · rw [if_neg c41] at hf
      refine ev_aload_n i_X10_clear_44 rfl ?_
      obtain ⟨b45, e45, hf⟩ := ob hf
      refine ev_gR i_X10_clear_45 fl_X10_19 rfl e45 ?_
      refine ev_iload_n i_X10_clear_48 rfl ?_
      refine ev_iconst i_X10_clear_49 lt_i_0 ?_
      obtain ⟨h50, e50, hf⟩ := ob hf
      refine ev_sI i_X10_clear_50 e50 ?_
      refine ev_iinc (y := (x2 + (1 : Int32))) i_X10_clear_51 rfl rfl (by decide) ?_
      refine ev_goto (tg := 38) i_X10_clear_54 (by decide) ?_
      exact ih h50 (x2 + (1 : Int32)) _ hf
def f_X10_clear (h : MH) (a0 : Nat) (x1 : Int32) : Option MH := gK h a0 10 ((pI h a0 10 0 x1).bind fun h2 => (pI h2 a0 10 1 (0 : Int32)).bind fun h7 => (pI h7 a0 10 2 (0 : Int32)).bind fun h12 => f_X10_clear_L17 (fun he36 => f_X10_clear_L38 (fun he57 => (f_X10_changed he57 a0).bind fun h58 => some h58) a0 fuel he36 (0 : Int32)) a0 fuel h12 (0 : Int32))
set_option maxRecDepth 20000 in
theorem e_X10_clear {G : GG} {h : MH} {a0 : Nat} {x1 : Int32} {r : MH} (hf : f_X10_clear h a0 x1 = some r) : Ev G 1 M_X10_clear 0 (ent M_X10_clear [.ref a0, .int x1]) [] h none r := by
  unfold f_X10_clear at hf
  show Ev G 1 M_X10_clear 0 [some (.ref a0), some (.int x1), none] [] h none r
  obtain ⟨-, hf⟩ := gK_of hf
  refine ev_aload_n i_X10_clear_0 rfl ?_
  refine ev_iload_n i_X10_clear_1 rfl ?_
  obtain ⟨h2, e2, hf⟩ := ob hf
  refine ev_pI i_X10_clear_2 fp_X10_clear_82 rfl e2 ?_
  refine ev_aload_n i_X10_clear_5 rfl ?_
  refine ev_iconst i_X10_clear_6 lt_i_0 ?_
  obtain ⟨h7, e7, hf⟩ := ob hf
  refine ev_pI i_X10_clear_7 fp_X10_clear_85 rfl e7 ?_
  refine ev_aload_n i_X10_clear_10 rfl ?_
  refine ev_iconst i_X10_clear_11 lt_i_0 ?_
  obtain ⟨h12, e12, hf⟩ := ob hf
  refine ev_pI i_X10_clear_12 fp_X10_clear_88 rfl e12 ?_
  refine ev_iconst i_X10_clear_15 lt_i_0 ?_
  refine ev_istore_n i_X10_clear_16 (by decide) ?_
  refine ev_sub (lc2 := [some (.ref a0), none, some (.int (0 : Int32))]) ⟨Or.inr rfl, Or.inl rfl, Or.inr rfl, trivial⟩ ?_
  exact l_X10_clear_17 (fun he36 r hf => by
    refine ev_iconst i_X10_clear_36 lt_i_0 ?_
    refine ev_istore_n i_X10_clear_37 (by decide) ?_
    exact l_X10_clear_38 (fun he57 r hf => by
      refine ev_aload_n i_X10_clear_57 rfl ?_
      obtain ⟨h58, e58, hf⟩ := ob hf
      refine ev_cV_v i_X10_clear_58 lk_X10_clear_91 [] rfl rfl (by decide) (gK_of e58).1.1 (gK_of e58).1.2 (Nat.le_of_ble_eq_true rfl) (by decide) (e_X10_changed e58) ?_
      cases hf
      exact ev_vret i_X10_clear_61 rfl) fuel he36 (0 : Int32) _ hf) fuel h12 (0 : Int32) _ hf
def f_X10_init (h : MH) (a0 : Nat) : Option MH := (pR (mm_na h 11 28) a0 10 3 (mm_N h)).bind fun h9 => (pR (mm_na h9 11 28) a0 10 4 (mm_N h9)).bind fun h17 => (pR (mm_na h17 11 6) a0 10 5 (mm_N h17)).bind fun h25 => (pR (mm_na h25 11 14) a0 10 6 (mm_N h25)).bind fun h33 => (pR (mm_na h33 11 336) a0 10 7 (mm_N h33)).bind fun h42 => (pR (mm_na h42 11 60) a0 10 8 (mm_N h42)).bind fun h50 => (pR (mm_na h50 11 8) a0 10 9 (mm_N h50)).bind fun h58 => (pR (mm_na h58 11 8) a0 10 10 (mm_N h58)).bind fun h66 => (pR (mm_na h66 11 8) a0 10 11 (mm_N h66)).bind fun h74 => (pR (mm_na h74 11 8) a0 10 12 (mm_N h74)).bind fun h82 => (pI h82 a0 10 20 (-1 : Int32)).bind fun h87 => (pR (mm_na h87 12 128) a0 10 22 (mm_N h87)).bind fun h96 => (pR (mm_na h96 11 16) a0 10 23 (mm_N h96)).bind fun h104 => (pR (mm_na h104 11 7) a0 10 25 (mm_N h104)).bind fun h112 => (pR (mm_na h112 11 128) a0 10 26 (mm_N h112)).bind fun h121 => (pR (mm_na h121 11 128) a0 10 27 (mm_N h121)).bind fun h130 => (pR (mm_na h130 11 40) a0 10 33 (mm_N h130)).bind fun h138 => (pR (mm_na h138 11 40) a0 10 34 (mm_N h138)).bind fun h146 => (pR (mm_na h146 11 40) a0 10 35 (mm_N h146)).bind fun h154 => (pR (mm_na h154 11 40) a0 10 36 (mm_N h154)).bind fun h162 => (pR (mm_na h162 11 40) a0 10 37 (mm_N h162)).bind fun h170 => (pR (mm_na h170 11 320) a0 10 38 (mm_N h170)).bind fun h179 => (f_X10_clear h179 a0 (1 : Int32)).bind fun h184 => some h184
set_option maxRecDepth 20000 in
theorem e_X10_init {G : GG} {h : MH} {a0 : Nat} {r : MH} (hf : f_X10_init h a0 = some r) : Ev G 2 M_X10_init 0 (ent M_X10_init [.ref a0]) [] h none r := by
  unfold f_X10_init at hf
  show Ev G 2 M_X10_init 0 [some (.ref a0)] [] h none r
  refine ev_aload_n i_X10_init_0 rfl ?_
  refine ev_objI i_X10_init_1 ml_X10_1 go_1 go_2 (Nat.le_of_ble_eq_true rfl) (by decide) ?_
  refine ev_aload_n i_X10_init_4 rfl ?_
  refine ev_bipush i_X10_init_5 lt_b_28 ?_
  refine ev_nA (kd := 11) i_X10_init_7 (Or.inl ⟨rfl, rfl⟩) ga_i (by decide) (by decide : _ = 28) (by decide) ?_
  obtain ⟨h9, e9, hf⟩ := ob hf
  refine ev_pR i_X10_init_9 fp_X10_init_7 rfl e9 ?_
  refine ev_aload_n i_X10_init_12 rfl ?_
  refine ev_bipush i_X10_init_13 lt_b_28 ?_
  refine ev_nA (kd := 11) i_X10_init_15 (Or.inl ⟨rfl, rfl⟩) ga_i (by decide) (by decide : _ = 28) (by decide) ?_
  obtain ⟨h17, e17, hf⟩ := ob hf
  refine ev_pR i_X10_init_17 fp_X10_init_13 rfl e17 ?_
  refine ev_aload_n i_X10_init_20 rfl ?_
  refine ev_bipush i_X10_init_21 lt_b_6 ?_
  refine ev_nA (kd := 11) i_X10_init_23 (Or.inl ⟨rfl, rfl⟩) ga_i (by decide) (by decide : _ = 6) (by decide) ?_
  obtain ⟨h25, e25, hf⟩ := ob hf
  refine ev_pR i_X10_init_25 fp_X10_init_16 rfl e25 ?_
  refine ev_aload_n i_X10_init_28 rfl ?_
  refine ev_bipush i_X10_init_29 lt_b_14 ?_
  refine ev_nA (kd := 11) i_X10_init_31 (Or.inl ⟨rfl, rfl⟩) ga_i (by decide) (by decide : _ = 14) (by decide) ?_
  obtain ⟨h33, e33, hf⟩ := ob hf
  refine ev_pR i_X10_init_33 fp_X10_init_19 rfl e33 ?_
  refine ev_aload_n i_X10_init_36 rfl ?_
  refine ev_sipush i_X10_init_37 lt_s_336 ?_
  refine ev_nA (kd := 11) i_X10_init_40 (Or.inl ⟨rfl, rfl⟩) ga_i (by decide) (by decide : _ = 336) (by decide) ?_
  obtain ⟨h42, e42, hf⟩ := ob hf
  refine ev_pR i_X10_init_42 fp_X10_init_22 rfl e42 ?_
  refine ev_aload_n i_X10_init_45 rfl ?_
  refine ev_bipush i_X10_init_46 lt_b_60 ?_
  refine ev_nA (kd := 11) i_X10_init_48 (Or.inl ⟨rfl, rfl⟩) ga_i (by decide) (by decide : _ = 60) (by decide) ?_
  obtain ⟨h50, e50, hf⟩ := ob hf
  refine ev_pR i_X10_init_50 fp_X10_init_25 rfl e50 ?_
  refine ev_aload_n i_X10_init_53 rfl ?_
  refine ev_bipush i_X10_init_54 lt_b_8 ?_
  refine ev_nA (kd := 11) i_X10_init_56 (Or.inl ⟨rfl, rfl⟩) ga_i (by decide) (by decide : _ = 8) (by decide) ?_
  obtain ⟨h58, e58, hf⟩ := ob hf
  refine ev_pR i_X10_init_58 fp_X10_init_28 rfl e58 ?_
  refine ev_aload_n i_X10_init_61 rfl ?_
  refine ev_bipush i_X10_init_62 lt_b_8 ?_
  refine ev_nA (kd := 11) i_X10_init_64 (Or.inl ⟨rfl, rfl⟩) ga_i (by decide) (by decide : _ = 8) (by decide) ?_
  obtain ⟨h66, e66, hf⟩ := ob hf
  refine ev_pR i_X10_init_66 fp_X10_init_31 rfl e66 ?_
  refine ev_aload_n i_X10_init_69 rfl ?_
  refine ev_bipush i_X10_init_70 lt_b_8 ?_
  refine ev_nA (kd := 11) i_X10_init_72 (Or.inl ⟨rfl, rfl⟩) ga_i (by decide) (by decide : _ = 8) (by decide) ?_
  obtain ⟨h74, e74, hf⟩ := ob hf
  refine ev_pR i_X10_init_74 fp_X10_init_34 rfl e74 ?_
  refine ev_aload_n i_X10_init_77 rfl ?_
  refine ev_bipush i_X10_init_78 lt_b_8 ?_
  refine ev_nA (kd := 11) i_X10_init_80 (Or.inl ⟨rfl, rfl⟩) ga_i (by decide) (by decide : _ = 8) (by decide) ?_
  obtain ⟨h82, e82, hf⟩ := ob hf
  refine ev_pR i_X10_init_82 fp_X10_init_37 rfl e82 ?_
  refine ev_aload_n i_X10_init_85 rfl ?_
  refine ev_iconst i_X10_init_86 lt_i_m1 ?_
  obtain ⟨h87, e87, hf⟩ := ob hf
  refine ev_pI i_X10_init_87 fp_X10_init_40 rfl e87 ?_
  refine ev_aload_n i_X10_init_90 rfl ?_
  refine ev_sipush i_X10_init_91 lt_s_128 ?_
  refine ev_nA (kd := 12) i_X10_init_94 (Or.inr ⟨rfl, rfl⟩) ga_z (by decide) (by decide : _ = 128) (by decide) ?_
  obtain ⟨h96, e96, hf⟩ := ob hf
  refine ev_pR i_X10_init_96 fp_X10_init_44 rfl e96 ?_
  refine ev_aload_n i_X10_init_99 rfl ?_
  refine ev_bipush i_X10_init_100 lt_b_16 ?_
  refine ev_nA (kd := 11) i_X10_init_102 (Or.inl ⟨rfl, rfl⟩) ga_i (by decide) (by decide : _ = 16) (by decide) ?_
  obtain ⟨h104, e104, hf⟩ := ob hf
  refine ev_pR i_X10_init_104 fp_X10_init_48 rfl e104 ?_
  refine ev_aload_n i_X10_init_107 rfl ?_
  refine ev_bipush i_X10_init_108 lt_b_7 ?_
  refine ev_nA (kd := 11) i_X10_init_110 (Or.inl ⟨rfl, rfl⟩) ga_i (by decide) (by decide : _ = 7) (by decide) ?_
  obtain ⟨h112, e112, hf⟩ := ob hf
  refine ev_pR i_X10_init_112 fp_X10_init_51 rfl e112 ?_
  refine ev_aload_n i_X10_init_115 rfl ?_
  refine ev_sipush i_X10_init_116 lt_s_128 ?_
  refine ev_nA (kd := 11) i_X10_init_119 (Or.inl ⟨rfl, rfl⟩) ga_i (by decide) (by decide : _ = 128) (by decide) ?_
  obtain ⟨h121, e121, hf⟩ := ob hf
  refine ev_pR i_X10_init_121 fp_X10_init_54 rfl e121 ?_
  refine ev_aload_n i_X10_init_124 rfl ?_
  refine ev_sipush i_X10_init_125 lt_s_128 ?_
  refine ev_nA (kd := 11) i_X10_init_128 (Or.inl ⟨rfl, rfl⟩) ga_i (by decide) (by decide : _ = 128) (by decide) ?_
  obtain ⟨h130, e130, hf⟩ := ob hf
  refine ev_pR i_X10_init_130 fp_X10_init_57 rfl e130 ?_
  refine ev_aload_n i_X10_init_133 rfl ?_
  refine ev_bipush i_X10_init_134 lt_b_40 ?_
  refine ev_nA (kd := 11) i_X10_init_136 (Or.inl ⟨rfl, rfl⟩) ga_i (by decide) (by decide : _ = 40) (by decide) ?_
  obtain ⟨h138, e138, hf⟩ := ob hf
  refine ev_pR i_X10_init_138 fp_X10_init_60 rfl e138 ?_
  refine ev_aload_n i_X10_init_141 rfl ?_
  refine ev_bipush i_X10_init_142 lt_b_40 ?_
  refine ev_nA (kd := 11) i_X10_init_144 (Or.inl ⟨rfl, rfl⟩) ga_i (by decide) (by decide : _ = 40) (by decide) ?_
  obtain ⟨h146, e146, hf⟩ := ob hf
  refine ev_pR i_X10_init_146 fp_X10_init_63 rfl e146 ?_
  refine ev_aload_n i_X10_init_149 rfl ?_
  refine ev_bipush i_X10_init_150 lt_b_40 ?_
  refine ev_nA (kd := 11) i_X10_init_152 (Or.inl ⟨rfl, rfl⟩) ga_i (by decide) (by decide : _ = 40) (by decide) ?_
  obtain ⟨h154, e154, hf⟩ := ob hf
  refine ev_pR i_X10_init_154 fp_X10_init_66 rfl e154 ?_
  refine ev_aload_n i_X10_init_157 rfl ?_
  refine ev_bipush i_X10_init_158 lt_b_40 ?_
  refine ev_nA (kd := 11) i_X10_init_160 (Or.inl ⟨rfl, rfl⟩) ga_i (by decide) (by decide : _ = 40) (by decide) ?_
  obtain ⟨h162, e162, hf⟩ := ob hf
  refine ev_pR i_X10_init_162 fp_X10_init_69 rfl e162 ?_
  refine ev_aload_n i_X10_init_165 rfl ?_
  refine ev_bipush i_X10_init_166 lt_b_40 ?_
  refine ev_nA (kd := 11) i_X10_init_168 (Or.inl ⟨rfl, rfl⟩) ga_i (by decide) (by decide : _ = 40) (by decide) ?_
  obtain ⟨h170, e170, hf⟩ := ob hf
  refine ev_pR i_X10_init_170 fp_X10_init_72 rfl e170 ?_
  refine ev_aload_n i_X10_init_173 rfl ?_
  refine ev_sipush i_X10_init_174 lt_s_320 ?_
  refine ev_nA (kd := 11) i_X10_init_177 (Or.inl ⟨rfl, rfl⟩) ga_i (by decide) (by decide : _ = 320) (by decide) ?_
  obtain ⟨h179, e179, hf⟩ := ob hf
  refine ev_pR i_X10_init_179 fp_X10_init_75 rfl e179 ?_
  refine ev_aload_n i_X10_init_182 rfl ?_
  refine ev_iconst i_X10_init_183 lt_i_1 ?_
  obtain ⟨h184, e184, hf⟩ := ob hf
  refine ev_cV_v i_X10_init_184 lk_X10_init_78 [.int (1 : Int32)] rfl rfl (by decide) (gK_of e184).1.1 (gK_of e184).1.2 (Nat.le_of_ble_eq_true rfl) (by decide) (e_X10_clear e184) ?_
  cases hf
  exact ev_vret i_X10_init_187 rfl
def f_X10_isIn (h : MH) (x0 : Int32) (x1 : Int32) (x2 : Int32) : Option Int32 := (if x0 < x1 then (some (0 : Int32)) else ((if x2 < x0 then (some (0 : Int32)) else (some (1 : Int32)))))
set_option maxRecDepth 20000 in
theorem e_X10_isIn {G : GG} {h : MH} {x0 : Int32} {x1 : Int32} {x2 : Int32} {r : Int32} (hf : f_X10_isIn h x0 x1 x2 = some r) : Ev G 0 M_X10_isIn 0 (ent M_X10_isIn [.int x0, .int x1, .int x2]) [] h (some (.int r)) h := by
  unfold f_X10_isIn at hf
  show Ev G 0 M_X10_isIn 0 [some (.int x0), some (.int x1), some (.int x2)] [] h (some (.int r)) h
  refine ev_iload_n i_X10_isIn_0 rfl ?_
  refine ev_iload_n i_X10_isIn_1 rfl ?_
  refine ev_icmp_lt (tg := 14) i_X10_isIn_2 (by decide) (fun c2 => ?_) (fun c2 => ?_)
  · rw [if_pos c2] at hf
    refine ev_iconst i_X10_isIn_14 lt_i_0 ?_
    cases hf
    exact ev_zret i_X10_isIn_15 rfl (by decide)
  · rw [if_neg c2] at hf
    refine ev_iload_n i_X10_isIn_5 rfl ?_
    refine ev_iload_n i_X10_isIn_6 rfl ?_
    refine ev_icmp_gt (tg := 14) i_X10_isIn_7 (by decide) (fun c7 => ?_) (fun c7 => ?_)
    · rw [if_pos c7] at hf
      refine ev_iconst i_X10_isIn_14 lt_i_0 ?_
      cases hf
      exact ev_zret i_X10_isIn_15 rfl (by decide)
    · rw [if_neg c7] at hf
      refine ev_iconst i_X10_isIn_10 lt_i_1 ?_
      refine ev_goto (tg := 15) i_X10_isIn_11 (by decide) ?_
      cases hf
      exact ev_zret i_X10_isIn_15 rfl (by decide)
def f_X10_isPort (h : MH) (a0 : Nat) (x1 : Int32) (x2 : Int32) : Option Int32 := gK h a0 10 ((gI h a0 10 0).bind fun v3 => (f_X10_isIn h x1 (0 : Int32) (v3 - (1 : Int32))).bind fun v8 => (if v8 = 0 then (some (0 : Int32)) else ((f_X10_isIn h x2 (0 : Int32) (3 : Int32)).bind fun v17 => (if v17 = 0 then (some (0 : Int32)) else (some (1 : Int32))))))
set_option maxRecDepth 20000 in
theorem e_X10_isPort {G : GG} {h : MH} {a0 : Nat} {x1 : Int32} {x2 : Int32} {r : Int32} (hf : f_X10_isPort h a0 x1 x2 = some r) : Ev G 1 M_X10_isPort 0 (ent M_X10_isPort [.ref a0, .int x1, .int x2]) [] h (some (.int r)) h := by
  unfold f_X10_isPort at hf
  show Ev G 1 M_X10_isPort 0 [some (.ref a0), some (.int x1), some (.int x2)] [] h (some (.int r)) h
  obtain ⟨-, hf⟩ := gK_of hf
  refine ev_iload_n i_X10_isPort_0 rfl ?_
  refine ev_iconst i_X10_isPort_1 lt_i_0 ?_
  refine ev_aload_n i_X10_isPort_2 rfl ?_
  obtain ⟨v3, e3, hf⟩ := ob hf
  refine ev_gI i_X10_isPort_3 fl_X10_82 rfl e3 ?_
  refine ev_iconst i_X10_isPort_6 lt_i_1 ?_
  refine ev_isub i_X10_isPort_7 ?_
  obtain ⟨v8, e8, hf⟩ := ob hf
  refine ev_cS_i i_X10_isPort_8 lk_X10_isPort_94 [.int x1, .int (0 : Int32), .int (v3 - (1 : Int32))] rfl rfl (by decide) (Nat.le_of_ble_eq_true rfl) (by decide) (e_X10_isIn e8) ?_
  refine ev_if_eq (tg := 27) i_X10_isPort_11 (by decide) (fun c11 => ?_) (fun c11 => ?_)
  · rw [if_pos c11] at hf
    refine ev_iconst i_X10_isPort_27 lt_i_0 ?_
    cases hf
    exact ev_zret i_X10_isPort_28 rfl (by decide)
  · rw [if_neg c11] at hf
    refine ev_iload_n i_X10_isPort_14 rfl ?_
    refine ev_iconst i_X10_isPort_15 lt_i_0 ?_
    refine ev_iconst i_X10_isPort_16 lt_i_3 ?_
    obtain ⟨v17, e17, hf⟩ := ob hf
    refine ev_cS_i i_X10_isPort_17 lk_X10_isPort_94 [.int x2, .int (0 : Int32), .int (3 : Int32)] rfl rfl (by decide) (Nat.le_of_ble_eq_true rfl) (by decide) (e_X10_isIn e17) ?_
    refine ev_if_eq (tg := 27) i_X10_isPort_20 (by decide) (fun c20 => ?_) (fun c20 => ?_)
    · rw [if_pos c20] at hf
      refine ev_iconst i_X10_isPort_27 lt_i_0 ?_
      cases hf
      exact ev_zret i_X10_isPort_28 rfl (by decide)
    · rw [if_neg c20] at hf
      refine ev_iconst i_X10_isPort_23 lt_i_1 ?_
      refine ev_goto (tg := 28) i_X10_isPort_24 (by decide) ?_
      cases hf
      exact ev_zret i_X10_isPort_28 rfl (by decide)
def f_X10_isSpan (h : MH) (a0 : Nat) (x1 : Int32) (x2 : Int32) : Option Int32 := gK h a0 10 ((f_X10_isIn h x1 (0 : Int32) (15 : Int32)).bind fun v4 => (if v4 = 0 then (some (0 : Int32)) else ((f_X10_isIn h x2 (0 : Int32) (15 : Int32)).bind fun v14 => (if v14 = 0 then (some (0 : Int32)) else (some (1 : Int32))))))
set_option maxRecDepth 20000 in
theorem e_X10_isSpan {G : GG} {h : MH} {a0 : Nat} {x1 : Int32} {x2 : Int32} {r : Int32} (hf : f_X10_isSpan h a0 x1 x2 = some r) : Ev G 1 M_X10_isSpan 0 (ent M_X10_isSpan [.ref a0, .int x1, .int x2]) [] h (some (.int r)) h := by
  unfold f_X10_isSpan at hf
  show Ev G 1 M_X10_isSpan 0 [some (.ref a0), some (.int x1), some (.int x2)] [] h (some (.int r)) h
  obtain ⟨-, hf⟩ := gK_of hf
  refine ev_iload_n i_X10_isSpan_0 rfl ?_
  refine ev_iconst i_X10_isSpan_1 lt_i_0 ?_
  refine ev_bipush i_X10_isSpan_2 lt_b_15 ?_
  obtain ⟨v4, e4, hf⟩ := ob hf
  refine ev_cS_i i_X10_isSpan_4 lk_X10_isSpan_94 [.int x1, .int (0 : Int32), .int (15 : Int32)] rfl rfl (by decide) (Nat.le_of_ble_eq_true rfl) (by decide) (e_X10_isIn e4) ?_
  refine ev_if_eq (tg := 24) i_X10_isSpan_7 (by decide) (fun c7 => ?_) (fun c7 => ?_)
  · rw [if_pos c7] at hf
    refine ev_iconst i_X10_isSpan_24 lt_i_0 ?_
    cases hf
    exact ev_zret i_X10_isSpan_25 rfl (by decide)
  · rw [if_neg c7] at hf
    refine ev_iload_n i_X10_isSpan_10 rfl ?_
    refine ev_iconst i_X10_isSpan_11 lt_i_0 ?_
    refine ev_bipush i_X10_isSpan_12 lt_b_15 ?_
    obtain ⟨v14, e14, hf⟩ := ob hf
    refine ev_cS_i i_X10_isSpan_14 lk_X10_isSpan_94 [.int x2, .int (0 : Int32), .int (15 : Int32)] rfl rfl (by decide) (Nat.le_of_ble_eq_true rfl) (by decide) (e_X10_isIn e14) ?_
    refine ev_if_eq (tg := 24) i_X10_isSpan_17 (by decide) (fun c17 => ?_) (fun c17 => ?_)
    · rw [if_pos c17] at hf
      refine ev_iconst i_X10_isSpan_24 lt_i_0 ?_
      cases hf
      exact ev_zret i_X10_isSpan_25 rfl (by decide)
    · rw [if_neg c17] at hf
      refine ev_iconst i_X10_isSpan_20 lt_i_1 ?_
      refine ev_goto (tg := 25) i_X10_isSpan_21 (by decide) ?_
      cases hf
      exact ev_zret i_X10_isSpan_25 rfl (by decide)
def f_X10_net (h : MH) (a0 : Nat) (x1 : Int32) : Option (Int32 × MH) := gK h a0 10 ((f_X10_isIn h x1 (1 : Int32) (7 : Int32)).bind fun v4 => (if v4 = 0 then (some ((0 : Int32), h)) else ((f_X10_clear h a0 x1).bind fun h14 => some ((1 : Int32), h14))))
set_option maxRecDepth 20000 in
theorem e_X10_net {G : GG} {h : MH} {a0 : Nat} {x1 : Int32} {r : (Int32 × MH)} (hf : f_X10_net h a0 x1 = some r) : Ev G 2 M_X10_net 0 (ent M_X10_net [.ref a0, .int x1]) [] h (some (.int r.1)) r.2 := by
  unfold f_X10_net at hf
  show Ev G 2 M_X10_net 0 [some (.ref a0), some (.int x1)] [] h (some (.int r.1)) r.2
  obtain ⟨-, hf⟩ := gK_of hf
  refine ev_iload_n i_X10_net_0 rfl ?_
  refine ev_iconst i_X10_net_1 lt_i_1 ?_
  refine ev_bipush i_X10_net_2 lt_b_7 ?_
  obtain ⟨v4, e4, hf⟩ := ob hf
  refine ev_cS_i i_X10_net_4 lk_X10_net_94 [.int x1, .int (1 : Int32), .int (7 : Int32)] rfl rfl (by decide) (Nat.le_of_ble_eq_true rfl) (by decide) (e_X10_isIn e4) ?_
  refine ev_if_ne (tg := 12) i_X10_net_7 (by decide) (fun c7 => ?_) (fun c7 => ?_)
  · rw [if_neg c7] at hf
    refine ev_aload_n i_X10_net_12 rfl ?_
    refine ev_iload_n i_X10_net_13 rfl ?_
    obtain ⟨h14, e14, hf⟩ := ob hf
    refine ev_cV_v i_X10_net_14 lk_X10_net_78 [.int x1] rfl rfl (by decide) (gK_of e14).1.1 (gK_of e14).1.2 (Nat.le_of_ble_eq_true rfl) (by decide) (e_X10_clear e14) ?_
    refine ev_iconst i_X10_net_17 lt_i_1 ?_
    cases hf
    exact ev_zret i_X10_net_18 rfl (by decide)
  · rw [if_pos c7] at hf
    refine ev_iconst i_X10_net_10 lt_i_0 ?_
    cases hf
    exact ev_zret i_X10_net_11 rfl (by decide)
def f_X10_link (h : MH) (a0 : Nat) (x1 : Int32) (x2 : Int32) (x3 : Int32) (x4 : Int32) : Option (Int32 × MH) := gK h a0 10 ((f_X10_isPort h a0 x1 x2).bind fun v3 => (if v3 = 0 then (some ((0 : Int32), h)) else ((f_X10_isPort h a0 x3 x4).bind fun v13 => (if v13 = 0 then (some ((0 : Int32), h)) else ((if x1 = x3 then (some ((0 : Int32), h)) else ((gR h a0 10 3).bind fun b25 => (aI h b25 (((4 : Int32) * x1) + x2)).bind fun v33 => (if v33 = 0 then ((gR h a0 10 3).bind fun b38 => (aI h b38 (((4 : Int32) * x3) + x4)).bind fun v47 => (if v47 = 0 then ((gR h a0 10 3).bind fun b54 => (sI h b54 (((4 : Int32) * x1) + x2) (1 : Int32)).bind fun h63 => (gR h63 a0 10 4).bind fun b65 => (sI h63 b65 (((4 : Int32) * x1) + x2) (((4 : Int32) * x3) + x4)).bind fun h79 => (gR h79 a0 10 3).bind fun b81 => (sI h79 b81 (((4 : Int32) * x3) + x4) (1 : Int32)).bind fun h91 => (gR h91 a0 10 4).bind fun b93 => (sI h91 b93 (((4 : Int32) * x3) + x4) (((4 : Int32) * x1) + x2)).bind fun h107 => (f_X10_changed h107 a0).bind fun h109 => some ((1 : Int32), h109)) else (some ((0 : Int32), h)))) else (some ((0 : Int32), h))))))))))
set_option maxRecDepth 20000 in
theorem e_X10_link {G : GG} {h : MH} {a0 : Nat} {x1 : Int32} {x2 : Int32} {x3 : Int32} {x4 : Int32} {r : (Int32 × MH)} (hf : f_X10_link h a0 x1 x2 x3 x4 = some r) : Ev G 2 M_X10_link 0 (ent M_X10_link [.ref a0, .int x1, .int x2, .int x3, .int x4]) [] h (some (.int r.1)) r.2 := by
  unfold f_X10_link at hf
  show Ev G 2 M_X10_link 0 [some (.ref a0), some (.int x1), some (.int x2), some (.int x3), some (.int x4)] [] h (some (.int r.1)) r.2
  obtain ⟨-, hf⟩ := gK_of hf
  refine ev_aload_n i_X10_link_0 rfl ?_
  refine ev_iload_n i_X10_link_1 rfl ?_
  refine ev_iload_n i_X10_link_2 rfl ?_
  obtain ⟨v3, e3, hf⟩ := ob hf
  refine ev_cV_i i_X10_link_3 lk_X10_link_98 [.int x1, .int x2] rfl rfl (by decide) (gK_of e3).1.1 (gK_of e3).1.2 (Nat.le_of_ble_eq_true rfl) (by decide) (e_X10_isPort e3) ?_
  refine ev_if_eq (tg := 51) i_X10_link_6 (by decide) (fun c6 => ?_) (fun c6 => ?_)
  · rw [if_pos c6] at hf
    refine ev_iconst i_X10_link_51 lt_i_0 ?_
    cases hf
    exact ev_zret i_X10_link_52 rfl (by decide)
  · rw [if_neg c6] at hf
    refine ev_aload_n i_X10_link_9 rfl ?_
    refine ev_iload_n i_X10_link_10 rfl ?_
    refine ev_iload i_X10_link_11 rfl ?_
    obtain ⟨v13, e13, hf⟩ := ob hf
    refine ev_cV_i i_X10_link_13 lk_X10_link_98 [.int x3, .int x4] rfl rfl (by decide) (gK_of e13).1.1 (gK_of e13).1.2 (Nat.le_of_ble_eq_true rfl) (by decide) (e_X10_isPort e13) ?_
    refine ev_if_eq (tg := 51) i_X10_link_16 (by decide) (fun c16 => ?_) (fun c16 => ?_)
    · rw [if_pos c16] at hf
      refine ev_iconst i_X10_link_51 lt_i_0 ?_
      cases hf
      exact ev_zret i_X10_link_52 rfl (by decide)
    · rw [if_neg c16] at hf
      refine ev_iload_n i_X10_link_19 rfl ?_
      refine ev_iload_n i_X10_link_20 rfl ?_
      refine ev_icmp_eq (tg := 51) i_X10_link_21 (by decide) (fun c21 => ?_) (fun c21 => ?_)
      · rw [if_pos c21] at hf
        refine ev_iconst i_X10_link_51 lt_i_0 ?_
        cases hf
        exact ev_zret i_X10_link_52 rfl (by decide)
      · rw [if_neg c21] at hf
        refine ev_aload_n i_X10_link_24 rfl ?_
        obtain ⟨b25, e25, hf⟩ := ob hf
        refine ev_gR i_X10_link_25 fl_X10_7 rfl e25 ?_
        refine ev_iconst i_X10_link_28 lt_i_4 ?_
        refine ev_iload_n i_X10_link_29 rfl ?_
        refine ev_imul i_X10_link_30 ?_
        refine ev_iload_n i_X10_link_31 rfl ?_
        refine ev_iadd i_X10_link_32 ?_
        obtain ⟨v33, e33, hf⟩ := ob hf
        refine ev_aI i_X10_link_33 e33 ?_
        refine ev_if_ne (tg := 51) i_X10_link_34 (by decide) (fun c34 => ?_) (fun c34 => ?_)
        · rw [if_neg c34] at hf
          refine ev_iconst i_X10_link_51 lt_i_0 ?_
          cases hf
          exact ev_zret i_X10_link_52 rfl (by decide)
        · rw [if_pos c34] at hf
          refine ev_aload_n i_X10_link_37 rfl ?_
          obtain ⟨b38, e38, hf⟩ := ob hf
          refine ev_gR i_X10_link_38 fl_X10_7 rfl e38 ?_
          refine ev_iconst i_X10_link_41 lt_i_4 ?_
          refine ev_iload_n i_X10_link_42 rfl ?_
          refine ev_imul i_X10_link_43 ?_
          refine ev_iload i_X10_link_44 rfl ?_
          refine ev_iadd i_X10_link_46 ?_
          obtain ⟨v47, e47, hf⟩ := ob hf
          refine ev_aI i_X10_link_47 e47 ?_
          refine ev_if_eq (tg := 53) i_X10_link_48 (by decide) (fun c48 => ?_) (fun c48 => ?_)
          · rw [if_pos c48] at hf
            refine ev_aload_n i_X10_link_53 rfl ?_
            obtain ⟨b54, e54, hf⟩ := ob hf
            refine ev_gR i_X10_link_54 fl_X10_7 rfl e54 ?_
            refine ev_iconst i_X10_link_57 lt_i_4 ?_
            refine ev_iload_n i_X10_link_58 rfl ?_
            refine ev_imul i_X10_link_59 ?_
            refine ev_iload_n i_X10_link_60 rfl ?_
            refine ev_iadd i_X10_link_61 ?_
            refine ev_iconst i_X10_link_62 lt_i_1 ?_
            obtain ⟨h63, e63, hf⟩ := ob hf
            refine ev_sI i_X10_link_63 e63 ?_
            refine ev_aload_n i_X10_link_64 rfl ?_
            obtain ⟨b65, e65, hf⟩ := ob hf
            refine ev_gR i_X10_link_65 fl_X10_13 rfl e65 ?_
            refine ev_iconst i_X10_link_68 lt_i_4 ?_
            refine ev_iload_n i_X10_link_69 rfl ?_
            refine ev_imul i_X10_link_70 ?_
            refine ev_iload_n i_X10_link_71 rfl ?_
            refine ev_iadd i_X10_link_72 ?_
            refine ev_iconst i_X10_link_73 lt_i_4 ?_
            refine ev_iload_n i_X10_link_74 rfl ?_
            refine ev_imul i_X10_link_75 ?_
            refine ev_iload i_X10_link_76 rfl ?_
            refine ev_iadd i_X10_link_78 ?_
            obtain ⟨h79, e79, hf⟩ := ob hf
            refine ev_sI i_X10_link_79 e79 ?_
            refine ev_aload_n i_X10_link_80 rfl ?_
            obtain ⟨b81, e81, hf⟩ := ob hf
            refine ev_gR i_X10_link_81 fl_X10_7 rfl e81 ?_
            refine ev_iconst i_X10_link_84 lt_i_4 ?_
            refine ev_iload_n i_X10_link_85 rfl ?_
            refine ev_imul i_X10_link_86 ?_
            refine ev_iload i_X10_link_87 rfl ?_
            refine ev_iadd i_X10_link_89 ?_
            refine ev_iconst i_X10_link_90 lt_i_1 ?_
            obtain ⟨h91, e91, hf⟩ := ob hf
            refine ev_sI i_X10_link_91 e91 ?_
            refine ev_aload_n i_X10_link_92 rfl ?_
            obtain ⟨b93, e93, hf⟩ := ob hf
            refine ev_gR i_X10_link_93 fl_X10_13 rfl e93 ?_
            refine ev_iconst i_X10_link_96 lt_i_4 ?_
            refine ev_iload_n i_X10_link_97 rfl ?_
            refine ev_imul i_X10_link_98 ?_
            refine ev_iload i_X10_link_99 rfl ?_
            refine ev_iadd i_X10_link_101 ?_
            refine ev_iconst i_X10_link_102 lt_i_4 ?_
            refine ev_iload_n i_X10_link_103 rfl ?_
            refine ev_imul i_X10_link_104 ?_
            refine ev_iload_n i_X10_link_105 rfl ?_
            refine ev_iadd i_X10_link_106 ?_
            obtain ⟨h107, e107, hf⟩ := ob hf
            refine ev_sI i_X10_link_107 e107 ?_
            refine ev_aload_n i_X10_link_108 rfl ?_
            obtain ⟨h109, e109, hf⟩ := ob hf
            refine ev_cV_v i_X10_link_109 lk_X10_link_91 [] rfl rfl (by decide) (gK_of e109).1.1 (gK_of e109).1.2 (Nat.le_of_ble_eq_true rfl) (by decide) (e_X10_changed e109) ?_
            refine ev_iconst i_X10_link_112 lt_i_1 ?_
            cases hf
            exact ev_zret i_X10_link_113 rfl (by decide)
          · rw [if_neg c48] at hf
            refine ev_iconst i_X10_link_51 lt_i_0 ?_
            cases hf
            exact ev_zret i_X10_link_52 rfl (by decide)
def f_X10_host (h : MH) (a0 : Nat) (x1 : Int32) (x2 : Int32) : Option (Int32 × MH) := gK h a0 10 ((f_X10_isPort h a0 x1 x2).bind fun v3 => (if v3 = 0 then (some ((-1 : Int32), h)) else ((gR h a0 10 3).bind fun b10 => (aI h b10 (((4 : Int32) * x1) + x2)).bind fun v18 => (if v18 = 0 then ((gI h a0 10 1).bind fun v23 => (if v23 = (6 : Int32) then (some ((-1 : Int32), h)) else ((gR h a0 10 3).bind fun b34 => (sI h b34 (((4 : Int32) * x1) + x2) (2 : Int32)).bind fun h43 => (gR h43 a0 10 4).bind fun b45 => (gI h43 a0 10 1).bind fun v54 => (sI h43 b45 (((4 : Int32) * x1) + x2) v54).bind fun h57 => (gR h57 a0 10 5).bind fun b59 => (gI h57 a0 10 1).bind fun v63 => (sI h57 b59 v63 (((4 : Int32) * x1) + x2)).bind fun h71 => (gI h71 a0 10 1).bind fun v74 => (pI h71 a0 10 1 (v74 + (1 : Int32))).bind fun h79 => (f_X10_changed h79 a0).bind fun h83 => (gI h83 a0 10 1).bind fun v87 => some ((v87 - (1 : Int32)), h83)))) else (some ((-1 : Int32), h))))))
set_option maxRecDepth 20000 in
theorem e_X10_host {G : GG} {h : MH} {a0 : Nat} {x1 : Int32} {x2 : Int32} {r : (Int32 × MH)} (hf : f_X10_host h a0 x1 x2 = some r) : Ev G 2 M_X10_host 0 (ent M_X10_host [.ref a0, .int x1, .int x2]) [] h (some (.int r.1)) r.2 := by
  unfold f_X10_host at hf
  show Ev G 2 M_X10_host 0 [some (.ref a0), some (.int x1), some (.int x2)] [] h (some (.int r.1)) r.2
  obtain ⟨-, hf⟩ := gK_of hf
  refine ev_aload_n i_X10_host_0 rfl ?_
  refine ev_iload_n i_X10_host_1 rfl ?_
  refine ev_iload_n i_X10_host_2 rfl ?_
  obtain ⟨v3, e3, hf⟩ := ob hf
  refine ev_cV_i i_X10_host_3 lk_X10_host_98 [.int x1, .int x2] rfl rfl (by decide) (gK_of e3).1.1 (gK_of e3).1.2 (Nat.le_of_ble_eq_true rfl) (by decide) (e_X10_isPort e3) ?_
  refine ev_if_eq (tg := 31) i_X10_host_6 (by decide) (fun c6 => ?_) (fun c6 => ?_)
  · rw [if_pos c6] at hf
    refine ev_iconst i_X10_host_31 lt_i_m1 ?_
    cases hf
    exact ev_iiret i_X10_host_32 rfl
  · rw [if_neg c6] at hf
    refine ev_aload_n i_X10_host_9 rfl ?_
    obtain ⟨b10, e10, hf⟩ := ob hf
    refine ev_gR i_X10_host_10 fl_X10_7 rfl e10 ?_
    refine ev_iconst i_X10_host_13 lt_i_4 ?_
    refine ev_iload_n i_X10_host_14 rfl ?_
    refine ev_imul i_X10_host_15 ?_
    refine ev_iload_n i_X10_host_16 rfl ?_
    refine ev_iadd i_X10_host_17 ?_
    obtain ⟨v18, e18, hf⟩ := ob hf
    refine ev_aI i_X10_host_18 e18 ?_
    refine ev_if_ne (tg := 31) i_X10_host_19 (by decide) (fun c19 => ?_) (fun c19 => ?_)
    · rw [if_neg c19] at hf
      refine ev_iconst i_X10_host_31 lt_i_m1 ?_
      cases hf
      exact ev_iiret i_X10_host_32 rfl
    · rw [if_pos c19] at hf
      refine ev_aload_n i_X10_host_22 rfl ?_
      obtain ⟨v23, e23, hf⟩ := ob hf
      refine ev_gI i_X10_host_23 fl_X10_85 rfl e23 ?_
      refine ev_bipush i_X10_host_26 lt_b_6 ?_
      refine ev_icmp_ne (tg := 33) i_X10_host_28 (by decide) (fun c28 => ?_) (fun c28 => ?_)
      · rw [if_neg c28] at hf
        refine ev_aload_n i_X10_host_33 rfl ?_
        obtain ⟨b34, e34, hf⟩ := ob hf
        refine ev_gR i_X10_host_34 fl_X10_7 rfl e34 ?_
        refine ev_iconst i_X10_host_37 lt_i_4 ?_
        refine ev_iload_n i_X10_host_38 rfl ?_
        refine ev_imul i_X10_host_39 ?_
        refine ev_iload_n i_X10_host_40 rfl ?_
        refine ev_iadd i_X10_host_41 ?_
        refine ev_iconst i_X10_host_42 lt_i_2 ?_
        obtain ⟨h43, e43, hf⟩ := ob hf
        refine ev_sI i_X10_host_43 e43 ?_
        refine ev_aload_n i_X10_host_44 rfl ?_
        obtain ⟨b45, e45, hf⟩ := ob hf
        refine ev_gR i_X10_host_45 fl_X10_13 rfl e45 ?_
        refine ev_iconst i_X10_host_48 lt_i_4 ?_
        refine ev_iload_n i_X10_host_49 rfl ?_
        refine ev_imul i_X10_host_50 ?_
        refine ev_iload_n i_X10_host_51 rfl ?_
        refine ev_iadd i_X10_host_52 ?_
        refine ev_aload_n i_X10_host_53 rfl ?_
        obtain ⟨v54, e54, hf⟩ := ob hf
        refine ev_gI i_X10_host_54 fl_X10_85 rfl e54 ?_
        obtain ⟨h57, e57, hf⟩ := ob hf
        refine ev_sI i_X10_host_57 e57 ?_
        refine ev_aload_n i_X10_host_58 rfl ?_
        obtain ⟨b59, e59, hf⟩ := ob hf
        refine ev_gR i_X10_host_59 fl_X10_16 rfl e59 ?_
        refine ev_aload_n i_X10_host_62 rfl ?_
        obtain ⟨v63, e63, hf⟩ := ob hf
        refine ev_gI i_X10_host_63 fl_X10_85 rfl e63 ?_
        refine ev_iconst i_X10_host_66 lt_i_4 ?_
        refine ev_iload_n i_X10_host_67 rfl ?_
        refine ev_imul i_X10_host_68 ?_
        refine ev_iload_n i_X10_host_69 rfl ?_
        refine ev_iadd i_X10_host_70 ?_
        obtain ⟨h71, e71, hf⟩ := ob hf
        refine ev_sI i_X10_host_71 e71 ?_
        refine ev_aload_n i_X10_host_72 rfl ?_
        refine ev_dup i_X10_host_73 ?_
        obtain ⟨v74, e74, hf⟩ := ob hf
        refine ev_gI i_X10_host_74 fl_X10_85 rfl e74 ?_
        refine ev_iconst i_X10_host_77 lt_i_1 ?_
        refine ev_iadd i_X10_host_78 ?_
        obtain ⟨h79, e79, hf⟩ := ob hf
        refine ev_pI i_X10_host_79 fp_X10_host_85 rfl e79 ?_
        refine ev_aload_n i_X10_host_82 rfl ?_
        obtain ⟨h83, e83, hf⟩ := ob hf
        refine ev_cV_v i_X10_host_83 lk_X10_host_91 [] rfl rfl (by decide) (gK_of e83).1.1 (gK_of e83).1.2 (Nat.le_of_ble_eq_true rfl) (by decide) (e_X10_changed e83) ?_
        refine ev_aload_n i_X10_host_86 rfl ?_
        obtain ⟨v87, e87, hf⟩ := ob hf
        refine ev_gI i_X10_host_87 fl_X10_85 rfl e87 ?_
        refine ev_iconst i_X10_host_90 lt_i_1 ?_
        refine ev_isub i_X10_host_91 ?_
        cases hf
        exact ev_iiret i_X10_host_92 rfl
      · rw [if_pos c28] at hf
        refine ev_iconst i_X10_host_31 lt_i_m1 ?_
        cases hf
        exact ev_iiret i_X10_host_32 rfl
def f_X10_hasGoal (h : MH) (x0 : Int32) : Option Int32 := (if x0 = 0 then (some (1 : Int32)) else ((if x0 = (2 : Int32) then (some (1 : Int32)) else ((if x0 = (3 : Int32) then (some (1 : Int32)) else (some (0 : Int32)))))))
set_option maxRecDepth 20000 in
theorem e_X10_hasGoal {G : GG} {h : MH} {x0 : Int32} {r : Int32} (hf : f_X10_hasGoal h x0 = some r) : Ev G 0 M_X10_hasGoal 0 (ent M_X10_hasGoal [.int x0]) [] h (some (.int r)) h := by
  unfold f_X10_hasGoal at hf
  show Ev G 0 M_X10_hasGoal 0 [some (.int x0)] [] h (some (.int r)) h
  refine ev_iload_n i_X10_hasGoal_0 rfl ?_
  refine ev_if_eq (tg := 14) i_X10_hasGoal_1 (by decide) (fun c1 => ?_) (fun c1 => ?_)
  · rw [if_pos c1] at hf
    refine ev_iconst i_X10_hasGoal_14 lt_i_1 ?_
    refine ev_goto (tg := 19) i_X10_hasGoal_15 (by decide) ?_
    cases hf
    exact ev_zret i_X10_hasGoal_19 rfl (by decide)
  · rw [if_neg c1] at hf
    refine ev_iload_n i_X10_hasGoal_4 rfl ?_
    refine ev_iconst i_X10_hasGoal_5 lt_i_2 ?_
    refine ev_icmp_eq (tg := 14) i_X10_hasGoal_6 (by decide) (fun c6 => ?_) (fun c6 => ?_)
    · rw [if_pos c6] at hf
      refine ev_iconst i_X10_hasGoal_14 lt_i_1 ?_
      refine ev_goto (tg := 19) i_X10_hasGoal_15 (by decide) ?_
      cases hf
      exact ev_zret i_X10_hasGoal_19 rfl (by decide)
    · rw [if_neg c6] at hf
      refine ev_iload_n i_X10_hasGoal_9 rfl ?_
      refine ev_iconst i_X10_hasGoal_10 lt_i_3 ?_
      refine ev_icmp_ne (tg := 18) i_X10_hasGoal_11 (by decide) (fun c11 => ?_) (fun c11 => ?_)
      · rw [if_neg c11] at hf
        refine ev_iconst i_X10_hasGoal_18 lt_i_0 ?_
        cases hf
        exact ev_zret i_X10_hasGoal_19 rfl (by decide)
      · rw [if_pos c11] at hf
        refine ev_iconst i_X10_hasGoal_14 lt_i_1 ?_
        refine ev_goto (tg := 19) i_X10_hasGoal_15 (by decide) ?_
        cases hf
        exact ev_zret i_X10_hasGoal_19 rfl (by decide)
def f_X10_isOf (h : MH) (a0 : Nat) (x1 : Int32) (x2 : Int32) : Option Int32 := gK h a0 10 ((gR h a0 10 8).bind fun b1 => (aI h b1 (((6 : Int32) * x1) + (3 : Int32))).bind fun v10 => (if v10 = x2 then (some (1 : Int32)) else ((gR h a0 10 8).bind fun b16 => (aI h b16 ((6 : Int32) * x1)).bind fun v23 => (f_X10_hasGoal h v23).bind fun v24 => (if v24 = 0 then (some (0 : Int32)) else ((gR h a0 10 8).bind fun b31 => (aI h b31 (((6 : Int32) * x1) + (4 : Int32))).bind fun v40 => (if v40 = x2 then (some (1 : Int32)) else (some (0 : Int32))))))))
set_option maxRecDepth 20000 in
theorem e_X10_isOf {G : GG} {h : MH} {a0 : Nat} {x1 : Int32} {x2 : Int32} {r : Int32} (hf : f_X10_isOf h a0 x1 x2 = some r) : Ev G 1 M_X10_isOf 0 (ent M_X10_isOf [.ref a0, .int x1, .int x2]) [] h (some (.int r)) h := by
  unfold f_X10_isOf at hf
  show Ev G 1 M_X10_isOf 0 [some (.ref a0), some (.int x1), some (.int x2)] [] h (some (.int r)) h
  obtain ⟨-, hf⟩ := gK_of hf
  refine ev_aload_n i_X10_isOf_0 rfl ?_
  obtain ⟨b1, e1, hf⟩ := ob hf
  refine ev_gR i_X10_isOf_1 fl_X10_25 rfl e1 ?_
  refine ev_bipush i_X10_isOf_4 lt_b_6 ?_
  refine ev_iload_n i_X10_isOf_6 rfl ?_
  refine ev_imul i_X10_isOf_7 ?_
  refine ev_iconst i_X10_isOf_8 lt_i_3 ?_
  refine ev_iadd i_X10_isOf_9 ?_
  obtain ⟨v10, e10, hf⟩ := ob hf
  refine ev_aI i_X10_isOf_10 e10 ?_
  refine ev_iload_n i_X10_isOf_11 rfl ?_
  refine ev_icmp_eq (tg := 45) i_X10_isOf_12 (by decide) (fun c12 => ?_) (fun c12 => ?_)
  · rw [if_pos c12] at hf
    refine ev_iconst i_X10_isOf_45 lt_i_1 ?_
    refine ev_goto (tg := 50) i_X10_isOf_46 (by decide) ?_
    cases hf
    exact ev_zret i_X10_isOf_50 rfl (by decide)
  · rw [if_neg c12] at hf
    refine ev_aload_n i_X10_isOf_15 rfl ?_
    obtain ⟨b16, e16, hf⟩ := ob hf
    refine ev_gR i_X10_isOf_16 fl_X10_25 rfl e16 ?_
    refine ev_bipush i_X10_isOf_19 lt_b_6 ?_
    refine ev_iload_n i_X10_isOf_21 rfl ?_
    refine ev_imul i_X10_isOf_22 ?_
    obtain ⟨v23, e23, hf⟩ := ob hf
    refine ev_aI i_X10_isOf_23 e23 ?_
    obtain ⟨v24, e24, hf⟩ := ob hf
    refine ev_cS_i i_X10_isOf_24 lk_X10_isOf_102 [.int v23] rfl rfl (by decide) (Nat.le_of_ble_eq_true rfl) (by decide) (e_X10_hasGoal e24) ?_
    refine ev_if_eq (tg := 49) i_X10_isOf_27 (by decide) (fun c27 => ?_) (fun c27 => ?_)
    · rw [if_pos c27] at hf
      refine ev_iconst i_X10_isOf_49 lt_i_0 ?_
      cases hf
      exact ev_zret i_X10_isOf_50 rfl (by decide)
    · rw [if_neg c27] at hf
      refine ev_aload_n i_X10_isOf_30 rfl ?_
      obtain ⟨b31, e31, hf⟩ := ob hf
      refine ev_gR i_X10_isOf_31 fl_X10_25 rfl e31 ?_
      refine ev_bipush i_X10_isOf_34 lt_b_6 ?_
      refine ev_iload_n i_X10_isOf_36 rfl ?_
      refine ev_imul i_X10_isOf_37 ?_
      refine ev_iconst i_X10_isOf_38 lt_i_4 ?_
      refine ev_iadd i_X10_isOf_39 ?_
      obtain ⟨v40, e40, hf⟩ := ob hf
      refine ev_aI i_X10_isOf_40 e40 ?_
      refine ev_iload_n i_X10_isOf_41 rfl ?_
      refine ev_icmp_ne (tg := 49) i_X10_isOf_42 (by decide) (fun c42 => ?_) (fun c42 => ?_)
      · rw [if_neg c42] at hf
        refine ev_iconst i_X10_isOf_49 lt_i_0 ?_
        cases hf
        exact ev_zret i_X10_isOf_50 rfl (by decide)
      · rw [if_pos c42] at hf
        refine ev_iconst i_X10_isOf_45 lt_i_1 ?_
        refine ev_goto (tg := 50) i_X10_isOf_46 (by decide) ?_
        cases hf
        exact ev_zret i_X10_isOf_50 rfl (by decide)
def f_X10_unplug_L75 (k107 : Option (Int32 × MH)) (h : MH) (a0 : Nat) (x3 : Int32) : Nat → Int32 → Option (Int32 × MH)
  | 0, _ => none
  | n + 1, x4 => (gI h a0 10 2).bind fun v78 => (if v78 ≤ x4 then (k107 ) else ((gI h a0 10 1).bind fun v88 => (f_X10_isOf h a0 x4 (v88 - (1 : Int32))).bind fun v93 => (if v93 = 0 then (f_X10_unplug_L75 k107 h a0 x3 n (x4 + (1 : Int32))) else (some ((0 : Int32), h)))))
set_option maxRecDepth 20000 in
theorem l_X10_unplug_75 {G : GG} {k107 : Option (Int32 × MH)} {h : MH} {a0 : Nat} {x3 : Int32} (hk107 : ∀  (r : (Int32 × MH)), k107  = some r → Ev G 2 M_X10_unplug 107 [some (.ref a0), none, none, some (.int x3), none] [] h (some (.int r.1)) r.2) : ∀ (n : Nat) (x4 : Int32) (r : (Int32 × MH)), f_X10_unplug_L75 k107 h a0 x3 n x4 = some r → Ev G 2 M_X10_unplug 75 [some (.ref a0), none, none, some (.int x3), some (.int x4)] [] h (some (.int r.1)) r.2 := by
  intro n
  induction n with
  | zero => intro x4 r hf; rw [f_X10_unplug_L75] at hf; cases hf
  | succ n ih =>
    intro x4 r hf
    rw [f_X10_unplug_L75] at hf
    refine ev_iload i_X10_unplug_75 rfl ?_
    refine ev_aload_n i_X10_unplug_77 rfl ?_
    obtain ⟨v78, e78, hf⟩ := ob hf
    refine ev_gI i_X10_unplug_78 fl_X10_88 rfl e78 ?_
    refine ev_icmp_ge (tg := 107) i_X10_unplug_81 (by decide) (fun c81 => ?_) (fun c81 => ?_)
    · rw [if_pos c81] at hf
      refine ev_sub (lc2 := [some (.ref a0), none, none, some (.int x3), none]) ⟨Or.inr rfl, Or.inr rfl, Or.inr rfl, Or.inr rfl, Or.inl rfl, trivial⟩ ?_
      exact hk107  _ hf
    · rw [if_neg c81] at hf
      refine ev_aload_n i_X10_unplug_84 rfl ?_
      refine ev_iload i_X10_unplug_85 rfl ?_
      refine ev_aload_n i_X10_unplug_87 rfl ?_
      obtain ⟨v88, e88, hf⟩ := ob hf
      refine ev_gI i_X10_unplug_88 fl_X10_85 rfl e88 ?_
      refine ev_iconst i_X10_unplug_91 lt_i_1 ?_
      refine ev_isub i_X10_unplug_92 ?_
      obtain ⟨v93, e93, hf⟩ := ob hf
      refine ev_cV_i i_X10_unplug_93 lk_X10_unplug_106 [.int x4, .int (v88 - (1 : Int32))] rfl rfl (by decide) (gK_of e93).1.1 (gK_of e93).1.2 (Nat.le_of_ble_eq_true rfl) (by decide) (e_X10_isOf e93) ?_
      refine ev_if_eq (tg := 101) i_X10_unplug_96 (by decide) (fun c96 => ?_) (fun c96 => ?_)
      · rw [if_pos c96] at hf
        refine ev_iinc (y := (x4 + (1 : Int32))) i_X10_unplug_101 rfl rfl (by decide) ?_
        refine ev_goto (tg := 75) i_X10_unplug_104 (by decide) ?_
        exact ih (x4 + (1 : Int32)) _ hf
      · rw [if_neg c96] at hf
        refine ev_iconst i_X10_unplug_99 lt_i_0 ?_
        cases hf
        exact ev_zret i_X10_unplug_100 rfl (by decide)
def f_X10_unplug_j117 (h : MH) (a0 : Nat) (x3 : Int32) : Option (Int32 × MH) := (gR h a0 10 3).bind fun b118 => (sI h b118 x3 (0 : Int32)).bind fun h123 => (f_X10_changed h123 a0).bind fun h125 => some ((1 : Int32), h125)
set_option maxRecDepth 20000 in
theorem j_X10_unplug_117 {G : GG} {h : MH} {a0 : Nat} {x3 : Int32} {r : (Int32 × MH)} (hf : f_X10_unplug_j117 h a0 x3 = some r) : Ev G 2 M_X10_unplug 117 [some (.ref a0), none, none, some (.int x3), none] [] h (some (.int r.1)) r.2 := by
  unfold f_X10_unplug_j117 at hf
  refine ev_aload_n i_X10_unplug_117 rfl ?_
  obtain ⟨b118, e118, hf⟩ := ob hf
  refine ev_gR i_X10_unplug_118 fl_X10_7 rfl e118 ?_
  refine ev_iload_n i_X10_unplug_121 rfl ?_
  refine ev_iconst i_X10_unplug_122 lt_i_0 ?_
  obtain ⟨h123, e123, hf⟩ := ob hf
  refine ev_sI i_X10_unplug_123 e123 ?_
  refine ev_aload_n i_X10_unplug_124 rfl ?_
  obtain ⟨h125, e125, hf⟩ := ob hf
  refine ev_cV_v i_X10_unplug_125 lk_X10_unplug_91 [] rfl rfl (by decide) (gK_of e125).1.1 (gK_of e125).1.2 (Nat.le_of_ble_eq_true rfl) (by decide) (e_X10_changed e125) ?_
  refine ev_iconst i_X10_unplug_128 lt_i_1 ?_
  cases hf
  exact ev_zret i_X10_unplug_129 rfl (by decide)
def f_X10_unplug (h : MH) (a0 : Nat) (x1 : Int32) (x2 : Int32) : Option (Int32 × MH) := gK h a0 10 ((f_X10_isPort h a0 x1 x2).bind fun v3 => (if v3 = 0 then (some ((0 : Int32), h)) else ((gR h a0 10 3).bind fun b10 => (aI h b10 (((4 : Int32) * x1) + x2)).bind fun v18 => (if v18 = 0 then (some ((0 : Int32), h)) else ((gR h a0 10 3).bind fun b31 => (aI h b31 (((4 : Int32) * x1) + x2)).bind fun v35 => (if v35 = (1 : Int32) then ((gR h a0 10 3).bind fun b41 => (gR h a0 10 4).bind fun b45 => (aI h b45 (((4 : Int32) * x1) + x2)).bind fun v49 => (sI h b41 v49 (0 : Int32)).bind fun h51 => f_X10_unplug_j117 h51 a0 (((4 : Int32) * x1) + x2)) else ((gR h a0 10 4).bind fun b56 => (aI h b56 (((4 : Int32) * x1) + x2)).bind fun v60 => (gI h a0 10 1).bind fun v62 => (if v60 = (v62 - (1 : Int32)) then (f_X10_unplug_L75 ((gI h a0 10 1).bind fun v109 => (pI h a0 10 1 (v109 - (1 : Int32))).bind fun h114 => f_X10_unplug_j117 h114 a0 (((4 : Int32) * x1) + x2)) h a0 (((4 : Int32) * x1) + x2) fuel (0 : Int32)) else (some ((0 : Int32), h))))))))))
set_option maxRecDepth 20000 in
theorem e_X10_unplug {G : GG} {h : MH} {a0 : Nat} {x1 : Int32} {x2 : Int32} {r : (Int32 × MH)} (hf : f_X10_unplug h a0 x1 x2 = some r) : Ev G 2 M_X10_unplug 0 (ent M_X10_unplug [.ref a0, .int x1, .int x2]) [] h (some (.int r.1)) r.2 := by
  unfold f_X10_unplug at hf
  show Ev G 2 M_X10_unplug 0 [some (.ref a0), some (.int x1), some (.int x2), none, none] [] h (some (.int r.1)) r.2
  obtain ⟨-, hf⟩ := gK_of hf
  refine ev_aload_n i_X10_unplug_0 rfl ?_
  refine ev_iload_n i_X10_unplug_1 rfl ?_
  refine ev_iload_n i_X10_unplug_2 rfl ?_
  obtain ⟨v3, e3, hf⟩ := ob hf
  refine ev_cV_i i_X10_unplug_3 lk_X10_unplug_98 [.int x1, .int x2] rfl rfl (by decide) (gK_of e3).1.1 (gK_of e3).1.2 (Nat.le_of_ble_eq_true rfl) (by decide) (e_X10_isPort e3) ?_
  refine ev_if_eq (tg := 22) i_X10_unplug_6 (by decide) (fun c6 => ?_) (fun c6 => ?_)
  · rw [if_pos c6] at hf
    refine ev_iconst i_X10_unplug_22 lt_i_0 ?_
    cases hf
    exact ev_zret i_X10_unplug_23 rfl (by decide)
  · rw [if_neg c6] at hf
    refine ev_aload_n i_X10_unplug_9 rfl ?_
    obtain ⟨b10, e10, hf⟩ := ob hf
    refine ev_gR i_X10_unplug_10 fl_X10_7 rfl e10 ?_
    refine ev_iconst i_X10_unplug_13 lt_i_4 ?_
    refine ev_iload_n i_X10_unplug_14 rfl ?_
    refine ev_imul i_X10_unplug_15 ?_
    refine ev_iload_n i_X10_unplug_16 rfl ?_
    refine ev_iadd i_X10_unplug_17 ?_
    obtain ⟨v18, e18, hf⟩ := ob hf
    refine ev_aI i_X10_unplug_18 e18 ?_
    refine ev_if_ne (tg := 24) i_X10_unplug_19 (by decide) (fun c19 => ?_) (fun c19 => ?_)
    · rw [if_neg c19] at hf
      refine ev_iconst i_X10_unplug_24 lt_i_4 ?_
      refine ev_iload_n i_X10_unplug_25 rfl ?_
      refine ev_imul i_X10_unplug_26 ?_
      refine ev_iload_n i_X10_unplug_27 rfl ?_
      refine ev_iadd i_X10_unplug_28 ?_
      refine ev_istore_n i_X10_unplug_29 (by decide) ?_
      refine ev_aload_n i_X10_unplug_30 rfl ?_
      obtain ⟨b31, e31, hf⟩ := ob hf
      refine ev_gR i_X10_unplug_31 fl_X10_7 rfl e31 ?_
      refine ev_iload_n i_X10_unplug_34 rfl ?_
      obtain ⟨v35, e35, hf⟩ := ob hf
      refine ev_aI i_X10_unplug_35 e35 ?_
      refine ev_iconst i_X10_unplug_36 lt_i_1 ?_
      refine ev_icmp_ne (tg := 55) i_X10_unplug_37 (by decide) (fun c37 => ?_) (fun c37 => ?_)
      · rw [if_neg c37] at hf
        refine ev_aload_n i_X10_unplug_55 rfl ?_
        obtain ⟨b56, e56, hf⟩ := ob hf
        refine ev_gR i_X10_unplug_56 fl_X10_13 rfl e56 ?_
        refine ev_iload_n i_X10_unplug_59 rfl ?_
        obtain ⟨v60, e60, hf⟩ := ob hf
        refine ev_aI i_X10_unplug_60 e60 ?_
        refine ev_aload_n i_X10_unplug_61 rfl ?_
        obtain ⟨v62, e62, hf⟩ := ob hf
        refine ev_gI i_X10_unplug_62 fl_X10_85 rfl e62 ?_
        refine ev_iconst i_X10_unplug_65 lt_i_1 ?_
        refine ev_isub i_X10_unplug_66 ?_
        refine ev_icmp_eq (tg := 72) i_X10_unplug_67 (by decide) (fun c67 => ?_) (fun c67 => ?_)
        · rw [if_pos c67] at hf
          refine ev_iconst i_X10_unplug_72 lt_i_0 ?_
          refine ev_istore i_X10_unplug_73 (by decide) ?_
          refine ev_sub (lc2 := [some (.ref a0), none, none, some (.int (((4 : Int32) * x1) + x2)), some (.int (0 : Int32))]) ⟨Or.inr rfl, Or.inl rfl, Or.inl rfl, Or.inr rfl, Or.inr rfl, trivial⟩ ?_
          exact l_X10_unplug_75 (fun  r hf => by
            refine ev_aload_n i_X10_unplug_107 rfl ?_
            refine ev_dup i_X10_unplug_108 ?_
            obtain ⟨v109, e109, hf⟩ := ob hf
            refine ev_gI i_X10_unplug_109 fl_X10_85 rfl e109 ?_
            refine ev_iconst i_X10_unplug_112 lt_i_1 ?_
            refine ev_isub i_X10_unplug_113 ?_
            obtain ⟨h114, e114, hf⟩ := ob hf
            refine ev_pI i_X10_unplug_114 fp_X10_unplug_85 rfl e114 ?_
            exact j_X10_unplug_117 hf) fuel (0 : Int32) _ hf
        · rw [if_neg c67] at hf
          refine ev_iconst i_X10_unplug_70 lt_i_0 ?_
          cases hf
          exact ev_zret i_X10_unplug_71 rfl (by decide)
      · rw [if_pos c37] at hf
        refine ev_aload_n i_X10_unplug_40 rfl ?_
        obtain ⟨b41, e41, hf⟩ := ob hf
        refine ev_gR i_X10_unplug_41 fl_X10_7 rfl e41 ?_
        refine ev_aload_n i_X10_unplug_44 rfl ?_
        obtain ⟨b45, e45, hf⟩ := ob hf
        refine ev_gR i_X10_unplug_45 fl_X10_13 rfl e45 ?_
        refine ev_iload_n i_X10_unplug_48 rfl ?_
        obtain ⟨v49, e49, hf⟩ := ob hf
        refine ev_aI i_X10_unplug_49 e49 ?_
        refine ev_iconst i_X10_unplug_50 lt_i_0 ?_
        obtain ⟨h51, e51, hf⟩ := ob hf
        refine ev_sI i_X10_unplug_51 e51 ?_
        refine ev_goto (tg := 117) i_X10_unplug_52 (by decide) ?_
        refine ev_sub (lc2 := [some (.ref a0), none, none, some (.int (((4 : Int32) * x1) + x2)), none]) ⟨Or.inr rfl, Or.inl rfl, Or.inl rfl, Or.inr rfl, Or.inr rfl, trivial⟩ ?_
        exact j_X10_unplug_117 hf
    · rw [if_pos c19] at hf
      refine ev_iconst i_X10_unplug_22 lt_i_0 ?_
      cases hf
      exact ev_zret i_X10_unplug_23 rfl (by decide)
def f_X10_ruleAt (h : MH) (a0 : Nat) (x1 : Int32) (x2 : Int32) (x3 : Int32) : Option Int32 := gK h a0 10 (some ((4 : Int32) * (((6 : Int32) * (((7 : Int32) * x1) + x2)) + x3)))
set_option maxRecDepth 20000 in
theorem e_X10_ruleAt {G : GG} {h : MH} {a0 : Nat} {x1 : Int32} {x2 : Int32} {x3 : Int32} {r : Int32} (hf : f_X10_ruleAt h a0 x1 x2 x3 = some r) : Ev G 0 M_X10_ruleAt 0 (ent M_X10_ruleAt [.ref a0, .int x1, .int x2, .int x3]) [] h (some (.int r)) h := by
  unfold f_X10_ruleAt at hf
  show Ev G 0 M_X10_ruleAt 0 [some (.ref a0), some (.int x1), some (.int x2), some (.int x3)] [] h (some (.int r)) h
  obtain ⟨-, hf⟩ := gK_of hf
  refine ev_iconst i_X10_ruleAt_0 lt_i_4 ?_
  refine ev_bipush i_X10_ruleAt_1 lt_b_6 ?_
  refine ev_bipush i_X10_ruleAt_3 lt_b_7 ?_
  refine ev_iload_n i_X10_ruleAt_5 rfl ?_
  refine ev_imul i_X10_ruleAt_6 ?_
  refine ev_iload_n i_X10_ruleAt_7 rfl ?_
  refine ev_iadd i_X10_ruleAt_8 ?_
  refine ev_imul i_X10_ruleAt_9 ?_
  refine ev_iload_n i_X10_ruleAt_10 rfl ?_
  refine ev_iadd i_X10_ruleAt_11 ?_
  refine ev_imul i_X10_ruleAt_12 ?_
  cases hf
  exact ev_iiret i_X10_ruleAt_13 rfl
def f_X10_rule (h : MH) (a0 : Nat) (x1 : Int32) (x2 : Int32) (x3 : Int32) (x4 : Int32) (x5 : Int32) (x6 : Int32) : Option (Int32 × MH) := gK h a0 10 ((f_X10_isIn h x1 (0 : Int32) (1 : Int32)).bind fun v3 => (if v3 = 0 then (some ((-1 : Int32), h)) else ((gI h a0 10 0).bind fun v12 => (f_X10_isIn h x2 (0 : Int32) (v12 - (1 : Int32))).bind fun v17 => (if v17 = 0 then (some ((-1 : Int32), h)) else ((f_X10_isSpan h a0 x3 x4).bind fun v27 => (if v27 = 0 then (some ((-1 : Int32), h)) else ((f_X10_isIn h x5 (0 : Int32) (9 : Int32)).bind fun v38 => (if v38 = 0 then (some ((-1 : Int32), h)) else ((f_X10_isIn h x6 (0 : Int32) (4 : Int32)).bind fun v48 => (if v48 = 0 then (some ((-1 : Int32), h)) else ((gR h a0 10 6).bind fun b57 => (aI h b57 (((7 : Int32) * x1) + x2)).bind fun v66 => (if v66 = (6 : Int32) then (some ((-1 : Int32), h)) else ((f_X10_ruleAt h a0 x1 x2 v66).bind fun v83 => (gR h a0 10 7).bind fun b89 => (sI h b89 v83 x3).bind fun h95 => (gR h95 a0 10 7).bind fun b97 => (sI h95 b97 (v83 + (1 : Int32)) x4).bind fun h106 => (gR h106 a0 10 7).bind fun b108 => (sI h106 b108 (v83 + (2 : Int32)) x5).bind fun h117 => (gR h117 a0 10 7).bind fun b119 => (sI h117 b119 (v83 + (3 : Int32)) x6).bind fun h128 => (gR h128 a0 10 6).bind fun b130 => (sI h128 b130 (((7 : Int32) * x1) + x2) (v66 + (1 : Int32))).bind fun h143 => (f_X10_changed h143 a0).bind fun h145 => some ((v66 + (1 : Int32)), h145))))))))))))))
set_option maxRecDepth 20000 in
theorem e_X10_rule {G : GG} {h : MH} {a0 : Nat} {x1 : Int32} {x2 : Int32} {x3 : Int32} {x4 : Int32} {x5 : Int32} {x6 : Int32} {r : (Int32 × MH)} (hf : f_X10_rule h a0 x1 x2 x3 x4 x5 x6 = some r) : Ev G 2 M_X10_rule 0 (ent M_X10_rule [.ref a0, .int x1, .int x2, .int x3, .int x4, .int x5, .int x6]) [] h (some (.int r.1)) r.2 := by
  unfold f_X10_rule at hf
  show Ev G 2 M_X10_rule 0 [some (.ref a0), some (.int x1), some (.int x2), some (.int x3), some (.int x4), some (.int x5), some (.int x6), none, none] [] h (some (.int r.1)) r.2
  obtain ⟨-, hf⟩ := gK_of hf
  refine ev_iload_n i_X10_rule_0 rfl ?_
  refine ev_iconst i_X10_rule_1 lt_i_0 ?_
  refine ev_iconst i_X10_rule_2 lt_i_1 ?_
  obtain ⟨v3, e3, hf⟩ := ob hf
  refine ev_cS_i i_X10_rule_3 lk_X10_rule_94 [.int x1, .int (0 : Int32), .int (1 : Int32)] rfl rfl (by decide) (Nat.le_of_ble_eq_true rfl) (by decide) (e_X10_isIn e3) ?_
  refine ev_if_eq (tg := 54) i_X10_rule_6 (by decide) (fun c6 => ?_) (fun c6 => ?_)
  · rw [if_pos c6] at hf
    refine ev_iconst i_X10_rule_54 lt_i_m1 ?_
    cases hf
    exact ev_iiret i_X10_rule_55 rfl
  · rw [if_neg c6] at hf
    refine ev_iload_n i_X10_rule_9 rfl ?_
    refine ev_iconst i_X10_rule_10 lt_i_0 ?_
    refine ev_aload_n i_X10_rule_11 rfl ?_
    obtain ⟨v12, e12, hf⟩ := ob hf
    refine ev_gI i_X10_rule_12 fl_X10_82 rfl e12 ?_
    refine ev_iconst i_X10_rule_15 lt_i_1 ?_
    refine ev_isub i_X10_rule_16 ?_
    obtain ⟨v17, e17, hf⟩ := ob hf
    refine ev_cS_i i_X10_rule_17 lk_X10_rule_94 [.int x2, .int (0 : Int32), .int (v12 - (1 : Int32))] rfl rfl (by decide) (Nat.le_of_ble_eq_true rfl) (by decide) (e_X10_isIn e17) ?_
    refine ev_if_eq (tg := 54) i_X10_rule_20 (by decide) (fun c20 => ?_) (fun c20 => ?_)
    · rw [if_pos c20] at hf
      refine ev_iconst i_X10_rule_54 lt_i_m1 ?_
      cases hf
      exact ev_iiret i_X10_rule_55 rfl
    · rw [if_neg c20] at hf
      refine ev_aload_n i_X10_rule_23 rfl ?_
      refine ev_iload_n i_X10_rule_24 rfl ?_
      refine ev_iload i_X10_rule_25 rfl ?_
      obtain ⟨v27, e27, hf⟩ := ob hf
      refine ev_cV_i i_X10_rule_27 lk_X10_rule_109 [.int x3, .int x4] rfl rfl (by decide) (gK_of e27).1.1 (gK_of e27).1.2 (Nat.le_of_ble_eq_true rfl) (by decide) (e_X10_isSpan e27) ?_
      refine ev_if_eq (tg := 54) i_X10_rule_30 (by decide) (fun c30 => ?_) (fun c30 => ?_)
      · rw [if_pos c30] at hf
        refine ev_iconst i_X10_rule_54 lt_i_m1 ?_
        cases hf
        exact ev_iiret i_X10_rule_55 rfl
      · rw [if_neg c30] at hf
        refine ev_iload i_X10_rule_33 rfl ?_
        refine ev_iconst i_X10_rule_35 lt_i_0 ?_
        refine ev_bipush i_X10_rule_36 lt_b_9 ?_
        obtain ⟨v38, e38, hf⟩ := ob hf
        refine ev_cS_i i_X10_rule_38 lk_X10_rule_94 [.int x5, .int (0 : Int32), .int (9 : Int32)] rfl rfl (by decide) (Nat.le_of_ble_eq_true rfl) (by decide) (e_X10_isIn e38) ?_
        refine ev_if_eq (tg := 54) i_X10_rule_41 (by decide) (fun c41 => ?_) (fun c41 => ?_)
        · rw [if_pos c41] at hf
          refine ev_iconst i_X10_rule_54 lt_i_m1 ?_
          cases hf
          exact ev_iiret i_X10_rule_55 rfl
        · rw [if_neg c41] at hf
          refine ev_iload i_X10_rule_44 rfl ?_
          refine ev_iconst i_X10_rule_46 lt_i_0 ?_
          refine ev_iconst i_X10_rule_47 lt_i_4 ?_
          obtain ⟨v48, e48, hf⟩ := ob hf
          refine ev_cS_i i_X10_rule_48 lk_X10_rule_94 [.int x6, .int (0 : Int32), .int (4 : Int32)] rfl rfl (by decide) (Nat.le_of_ble_eq_true rfl) (by decide) (e_X10_isIn e48) ?_
          refine ev_if_ne (tg := 56) i_X10_rule_51 (by decide) (fun c51 => ?_) (fun c51 => ?_)
          · rw [if_neg c51] at hf
            refine ev_aload_n i_X10_rule_56 rfl ?_
            obtain ⟨b57, e57, hf⟩ := ob hf
            refine ev_gR i_X10_rule_57 fl_X10_19 rfl e57 ?_
            refine ev_bipush i_X10_rule_60 lt_b_7 ?_
            refine ev_iload_n i_X10_rule_62 rfl ?_
            refine ev_imul i_X10_rule_63 ?_
            refine ev_iload_n i_X10_rule_64 rfl ?_
            refine ev_iadd i_X10_rule_65 ?_
            obtain ⟨v66, e66, hf⟩ := ob hf
            refine ev_aI i_X10_rule_66 e66 ?_
            refine ev_istore i_X10_rule_67 (by decide) ?_
            refine ev_iload i_X10_rule_69 rfl ?_
            refine ev_bipush i_X10_rule_71 lt_b_6 ?_
            refine ev_icmp_ne (tg := 78) i_X10_rule_73 (by decide) (fun c73 => ?_) (fun c73 => ?_)
            · rw [if_neg c73] at hf
              refine ev_aload_n i_X10_rule_78 rfl ?_
              refine ev_iload_n i_X10_rule_79 rfl ?_
              refine ev_iload_n i_X10_rule_80 rfl ?_
              refine ev_iload i_X10_rule_81 rfl ?_
              obtain ⟨v83, e83, hf⟩ := ob hf
              refine ev_cV_i i_X10_rule_83 lk_X10_rule_112 [.int x1, .int x2, .int v66] rfl rfl (by decide) (gK_of e83).1.1 (gK_of e83).1.2 (Nat.le_of_ble_eq_true rfl) (by decide) (e_X10_ruleAt e83) ?_
              refine ev_istore i_X10_rule_86 (by decide) ?_
              refine ev_aload_n i_X10_rule_88 rfl ?_
              obtain ⟨b89, e89, hf⟩ := ob hf
              refine ev_gR i_X10_rule_89 fl_X10_22 rfl e89 ?_
              refine ev_iload i_X10_rule_92 rfl ?_
              refine ev_iload_n i_X10_rule_94 rfl ?_
              obtain ⟨h95, e95, hf⟩ := ob hf
              refine ev_sI i_X10_rule_95 e95 ?_
              refine ev_aload_n i_X10_rule_96 rfl ?_
              obtain ⟨b97, e97, hf⟩ := ob hf
              refine ev_gR i_X10_rule_97 fl_X10_22 rfl e97 ?_
              refine ev_iload i_X10_rule_100 rfl ?_
              refine ev_iconst i_X10_rule_102 lt_i_1 ?_
              refine ev_iadd i_X10_rule_103 ?_
              refine ev_iload i_X10_rule_104 rfl ?_
              obtain ⟨h106, e106, hf⟩ := ob hf
              refine ev_sI i_X10_rule_106 e106 ?_
              refine ev_aload_n i_X10_rule_107 rfl ?_
              obtain ⟨b108, e108, hf⟩ := ob hf
              refine ev_gR i_X10_rule_108 fl_X10_22 rfl e108 ?_
              refine ev_iload i_X10_rule_111 rfl ?_
              refine ev_iconst i_X10_rule_113 lt_i_2 ?_
              refine ev_iadd i_X10_rule_114 ?_
              refine ev_iload i_X10_rule_115 rfl ?_
              obtain ⟨h117, e117, hf⟩ := ob hf
              refine ev_sI i_X10_rule_117 e117 ?_
              refine ev_aload_n i_X10_rule_118 rfl ?_
              obtain ⟨b119, e119, hf⟩ := ob hf
              refine ev_gR i_X10_rule_119 fl_X10_22 rfl e119 ?_
              refine ev_iload i_X10_rule_122 rfl ?_
              refine ev_iconst i_X10_rule_124 lt_i_3 ?_
              refine ev_iadd i_X10_rule_125 ?_
              refine ev_iload i_X10_rule_126 rfl ?_
              obtain ⟨h128, e128, hf⟩ := ob hf
              refine ev_sI i_X10_rule_128 e128 ?_
              refine ev_aload_n i_X10_rule_129 rfl ?_
              obtain ⟨b130, e130, hf⟩ := ob hf
              refine ev_gR i_X10_rule_130 fl_X10_19 rfl e130 ?_
              refine ev_bipush i_X10_rule_133 lt_b_7 ?_
              refine ev_iload_n i_X10_rule_135 rfl ?_
              refine ev_imul i_X10_rule_136 ?_
              refine ev_iload_n i_X10_rule_137 rfl ?_
              refine ev_iadd i_X10_rule_138 ?_
              refine ev_iload i_X10_rule_139 rfl ?_
              refine ev_iconst i_X10_rule_141 lt_i_1 ?_
              refine ev_iadd i_X10_rule_142 ?_
              obtain ⟨h143, e143, hf⟩ := ob hf
              refine ev_sI i_X10_rule_143 e143 ?_
              refine ev_aload_n i_X10_rule_144 rfl ?_
              obtain ⟨h145, e145, hf⟩ := ob hf
              refine ev_cV_v i_X10_rule_145 lk_X10_rule_91 [] rfl rfl (by decide) (gK_of e145).1.1 (gK_of e145).1.2 (Nat.le_of_ble_eq_true rfl) (by decide) (e_X10_changed e145) ?_
              refine ev_iload i_X10_rule_148 rfl ?_
              refine ev_iconst i_X10_rule_150 lt_i_1 ?_
              refine ev_iadd i_X10_rule_151 ?_
              cases hf
              exact ev_iiret i_X10_rule_152 rfl
            · rw [if_pos c73] at hf
              refine ev_iconst i_X10_rule_76 lt_i_m1 ?_
              cases hf
              exact ev_iiret i_X10_rule_77 rfl
          · rw [if_pos c51] at hf
            refine ev_iconst i_X10_rule_54 lt_i_m1 ?_
            cases hf
            exact ev_iiret i_X10_rule_55 rfl
def f_X10_strike_L55 (k89 : MH → Option (Int32 × MH)) (a0 : Nat) (x1 : Int32) (x2 : Int32) : Nat → MH → Int32 → Option (Int32 × MH)
  | 0, _, _ => none
  | n + 1, h, x4 => (f_X10_ruleAt h a0 x1 x2 (5 : Int32)).bind fun v61 => (if v61 ≤ x4 then (k89 h) else ((gR h a0 10 7).bind fun b68 => (gR h a0 10 7).bind fun b74 => (aI h b74 (x4 + (4 : Int32))).bind fun v81 => (sI h b68 x4 v81).bind fun h82 => f_X10_strike_L55 k89 a0 x1 x2 n h82 (x4 + (1 : Int32))))
set_option maxRecDepth 20000 in
theorem l_X10_strike_55 {G : GG} {k89 : MH → Option (Int32 × MH)} {a0 : Nat} {x1 : Int32} {x2 : Int32} (hk89 : ∀ (hz : MH) (r : (Int32 × MH)), k89 hz = some r → Ev G 1 M_X10_strike 89 [some (.ref a0), some (.int x1), some (.int x2), none, none] [] hz (some (.int r.1)) r.2) : ∀ (n : Nat) (h : MH) (x4 : Int32) (r : (Int32 × MH)), f_X10_strike_L55 k89 a0 x1 x2 n h x4 = some r → Ev G 1 M_X10_strike 55 [some (.ref a0), some (.int x1), some (.int x2), none, some (.int x4)] [] h (some (.int r.1)) r.2 := by
  intro n
  induction n with
  | zero => intro h x4 r hf; rw [f_X10_strike_L55] at hf; cases hf
  | succ n ih =>
    intro h x4 r hf
    rw [f_X10_strike_L55] at hf
    refine ev_iload i_X10_strike_55 rfl ?_
    refine ev_aload_n i_X10_strike_57 rfl ?_
    refine ev_iload_n i_X10_strike_58 rfl ?_
    refine ev_iload_n i_X10_strike_59 rfl ?_
    refine ev_iconst i_X10_strike_60 lt_i_5 ?_
    obtain ⟨v61, e61, hf⟩ := ob hf
    refine ev_cV_i i_X10_strike_61 lk_X10_strike_112 [.int x1, .int x2, .int (5 : Int32)] rfl rfl (by decide) (gK_of e61).1.1 (gK_of e61).1.2 (Nat.le_of_ble_eq_true rfl) (by decide) (e_X10_ruleAt e61) ?_
    refine ev_icmp_ge (tg := 89) i_X10_strike_64 (by decide) (fun c64 => ?_) (fun c64 => ?_)
    · rw [if_pos c64] at hf
      refine ev_sub (lc2 := [some (.ref a0), some (.int x1), some (.int x2), none, none]) ⟨Or.inr rfl, Or.inr rfl, Or.inr rfl, Or.inr rfl, Or.inl rfl, trivial⟩ ?_
      exact hk89 h _ hf
    · rw [if_neg c64] at hf
      refine ev_aload_n i_X10_strike_67 rfl ?_
      obtain ⟨b68, e68, hf⟩ := ob hf
      refine ev_gR i_X10_strike_68 fl_X10_22 rfl e68 ?_
      refine ev_iload i_X10_strike_71 rfl ?_
      refine ev_aload_n i_X10_strike_73 rfl ?_
      obtain ⟨b74, e74, hf⟩ := ob hf
      refine ev_gR i_X10_strike_74 fl_X10_22 rfl e74 ?_
      refine ev_iload i_X10_strike_77 rfl ?_
      refine ev_iconst i_X10_strike_79 lt_i_4 ?_
      refine ev_iadd i_X10_strike_80 ?_
      obtain ⟨v81, e81, hf⟩ := ob hf
      refine ev_aI i_X10_strike_81 e81 ?_
      obtain ⟨h82, e82, hf⟩ := ob hf
      refine ev_sI i_X10_strike_82 e82 ?_
      refine ev_iinc (y := (x4 + (1 : Int32))) i_X10_strike_83 rfl rfl (by decide) ?_
      refine ev_goto (tg := 55) i_X10_strike_86 (by decide) ?_
      exact ih h82 (x4 + (1 : Int32)) _ hf
def f_X10_strike (h : MH) (a0 : Nat) (x1 : Int32) (x2 : Int32) (x3 : Int32) : Option (Int32 × MH) := gK h a0 10 ((f_X10_isIn h x1 (0 : Int32) (1 : Int32)).bind fun v3 => (if v3 = 0 then (some ((-1 : Int32), h)) else ((gI h a0 10 0).bind fun v12 => (f_X10_isIn h x2 (0 : Int32) (v12 - (1 : Int32))).bind fun v17 => (if v17 = 0 then (some ((-1 : Int32), h)) else ((gR h a0 10 6).bind fun b26 => (aI h b26 (((7 : Int32) * x1) + x2)).bind fun v35 => (f_X10_isIn h x3 (0 : Int32) (v35 - (1 : Int32))).bind fun v38 => (if v38 = 0 then (some ((-1 : Int32), h)) else ((f_X10_ruleAt h a0 x1 x2 x3).bind fun v50 => f_X10_strike_L55 (fun he89 => (gR he89 a0 10 6).bind fun b90 => (aI he89 b90 (((7 : Int32) * x1) + x2)).bind fun v100 => (sI he89 b90 (((7 : Int32) * x1) + x2) (v100 - (1 : Int32))).bind fun h103 => (f_X10_changed h103 a0).bind fun h105 => (gR h105 a0 10 6).bind fun b109 => (aI h105 b109 (((7 : Int32) * x1) + x2)).bind fun v118 => some (v118, h105)) a0 x1 x2 fuel h v50)))))))
set_option maxRecDepth 20000 in
theorem e_X10_strike {G : GG} {h : MH} {a0 : Nat} {x1 : Int32} {x2 : Int32} {x3 : Int32} {r : (Int32 × MH)} (hf : f_X10_strike h a0 x1 x2 x3 = some r) : Ev G 1 M_X10_strike 0 (ent M_X10_strike [.ref a0, .int x1, .int x2, .int x3]) [] h (some (.int r.1)) r.2 := by
  unfold f_X10_strike at hf
  show Ev G 1 M_X10_strike 0 [some (.ref a0), some (.int x1), some (.int x2), some (.int x3), none] [] h (some (.int r.1)) r.2
  obtain ⟨-, hf⟩ := gK_of hf
  refine ev_iload_n i_X10_strike_0 rfl ?_
  refine ev_iconst i_X10_strike_1 lt_i_0 ?_
  refine ev_iconst i_X10_strike_2 lt_i_1 ?_
  obtain ⟨v3, e3, hf⟩ := ob hf
  refine ev_cS_i i_X10_strike_3 lk_X10_strike_94 [.int x1, .int (0 : Int32), .int (1 : Int32)] rfl rfl (by decide) (Nat.le_of_ble_eq_true rfl) (by decide) (e_X10_isIn e3) ?_
  refine ev_if_eq (tg := 44) i_X10_strike_6 (by decide) (fun c6 => ?_) (fun c6 => ?_)
  · rw [if_pos c6] at hf
    refine ev_iconst i_X10_strike_44 lt_i_m1 ?_
    cases hf
    exact ev_iiret i_X10_strike_45 rfl
  · rw [if_neg c6] at hf
    refine ev_iload_n i_X10_strike_9 rfl ?_
    refine ev_iconst i_X10_strike_10 lt_i_0 ?_
    refine ev_aload_n i_X10_strike_11 rfl ?_
    obtain ⟨v12, e12, hf⟩ := ob hf
    refine ev_gI i_X10_strike_12 fl_X10_82 rfl e12 ?_
    refine ev_iconst i_X10_strike_15 lt_i_1 ?_
    refine ev_isub i_X10_strike_16 ?_
    obtain ⟨v17, e17, hf⟩ := ob hf
    refine ev_cS_i i_X10_strike_17 lk_X10_strike_94 [.int x2, .int (0 : Int32), .int (v12 - (1 : Int32))] rfl rfl (by decide) (Nat.le_of_ble_eq_true rfl) (by decide) (e_X10_isIn e17) ?_
    refine ev_if_eq (tg := 44) i_X10_strike_20 (by decide) (fun c20 => ?_) (fun c20 => ?_)
    · rw [if_pos c20] at hf
      refine ev_iconst i_X10_strike_44 lt_i_m1 ?_
      cases hf
      exact ev_iiret i_X10_strike_45 rfl
    · rw [if_neg c20] at hf
      refine ev_iload_n i_X10_strike_23 rfl ?_
      refine ev_iconst i_X10_strike_24 lt_i_0 ?_
      refine ev_aload_n i_X10_strike_25 rfl ?_
      obtain ⟨b26, e26, hf⟩ := ob hf
      refine ev_gR i_X10_strike_26 fl_X10_19 rfl e26 ?_
      refine ev_bipush i_X10_strike_29 lt_b_7 ?_
      refine ev_iload_n i_X10_strike_31 rfl ?_
      refine ev_imul i_X10_strike_32 ?_
      refine ev_iload_n i_X10_strike_33 rfl ?_
      refine ev_iadd i_X10_strike_34 ?_
      obtain ⟨v35, e35, hf⟩ := ob hf
      refine ev_aI i_X10_strike_35 e35 ?_
      refine ev_iconst i_X10_strike_36 lt_i_1 ?_
      refine ev_isub i_X10_strike_37 ?_
      obtain ⟨v38, e38, hf⟩ := ob hf
      refine ev_cS_i i_X10_strike_38 lk_X10_strike_94 [.int x3, .int (0 : Int32), .int (v35 - (1 : Int32))] rfl rfl (by decide) (Nat.le_of_ble_eq_true rfl) (by decide) (e_X10_isIn e38) ?_
      refine ev_if_ne (tg := 46) i_X10_strike_41 (by decide) (fun c41 => ?_) (fun c41 => ?_)
      · rw [if_neg c41] at hf
        refine ev_aload_n i_X10_strike_46 rfl ?_
        refine ev_iload_n i_X10_strike_47 rfl ?_
        refine ev_iload_n i_X10_strike_48 rfl ?_
        refine ev_iload_n i_X10_strike_49 rfl ?_
        obtain ⟨v50, e50, hf⟩ := ob hf
        refine ev_cV_i i_X10_strike_50 lk_X10_strike_112 [.int x1, .int x2, .int x3] rfl rfl (by decide) (gK_of e50).1.1 (gK_of e50).1.2 (Nat.le_of_ble_eq_true rfl) (by decide) (e_X10_ruleAt e50) ?_
        refine ev_istore i_X10_strike_53 (by decide) ?_
        refine ev_sub (lc2 := [some (.ref a0), some (.int x1), some (.int x2), none, some (.int v50)]) ⟨Or.inr rfl, Or.inr rfl, Or.inr rfl, Or.inl rfl, Or.inr rfl, trivial⟩ ?_
        exact l_X10_strike_55 (fun he89 r hf => by
          refine ev_aload_n i_X10_strike_89 rfl ?_
          obtain ⟨b90, e90, hf⟩ := ob hf
          refine ev_gR i_X10_strike_90 fl_X10_19 rfl e90 ?_
          refine ev_bipush i_X10_strike_93 lt_b_7 ?_
          refine ev_iload_n i_X10_strike_95 rfl ?_
          refine ev_imul i_X10_strike_96 ?_
          refine ev_iload_n i_X10_strike_97 rfl ?_
          refine ev_iadd i_X10_strike_98 ?_
          refine ev_dup2 i_X10_strike_99 ?_
          obtain ⟨v100, e100, hf⟩ := ob hf
          refine ev_aI i_X10_strike_100 e100 ?_
          refine ev_iconst i_X10_strike_101 lt_i_1 ?_
          refine ev_isub i_X10_strike_102 ?_
          obtain ⟨h103, e103, hf⟩ := ob hf
          refine ev_sI i_X10_strike_103 e103 ?_
          refine ev_aload_n i_X10_strike_104 rfl ?_
          obtain ⟨h105, e105, hf⟩ := ob hf
          refine ev_cV_v i_X10_strike_105 lk_X10_strike_91 [] rfl rfl (by decide) (gK_of e105).1.1 (gK_of e105).1.2 (Nat.le_of_ble_eq_true rfl) (by decide) (e_X10_changed e105) ?_
          refine ev_aload_n i_X10_strike_108 rfl ?_
          obtain ⟨b109, e109, hf⟩ := ob hf
          refine ev_gR i_X10_strike_109 fl_X10_19 rfl e109 ?_
          refine ev_bipush i_X10_strike_112 lt_b_7 ?_
          refine ev_iload_n i_X10_strike_114 rfl ?_
          refine ev_imul i_X10_strike_115 ?_
          refine ev_iload_n i_X10_strike_116 rfl ?_
          refine ev_iadd i_X10_strike_117 ?_
          obtain ⟨v118, e118, hf⟩ := ob hf
          refine ev_aI i_X10_strike_118 e118 ?_
          cases hf
          exact ev_iiret i_X10_strike_119 rfl) fuel h v50 _ hf
      · rw [if_pos c41] at hf
        refine ev_iconst i_X10_strike_44 lt_i_m1 ?_
        cases hf
        exact ev_iiret i_X10_strike_45 rfl
def f_X10_copy_L34 (k78 : MH → Option (Int32 × MH)) (a0 : Nat) (x1 : Int32) (x3 : Int32) (x4 : Int32) : Nat → MH → Int32 → Option (Int32 × MH)
  | 0, _, _ => none
  | n + 1, h, x5 => (if (24 : Int32) ≤ x5 then (k78 h) else ((gR h a0 10 7).bind fun b42 => (f_X10_ruleAt h a0 x4 x1 (0 : Int32)).bind fun v50 => (gR h a0 10 7).bind fun b57 => (f_X10_ruleAt h a0 x3 x1 (0 : Int32)).bind fun v64 => (aI h b57 (v64 + x5)).bind fun v70 => (sI h b42 (v50 + x5) v70).bind fun h71 => f_X10_copy_L34 k78 a0 x1 x3 x4 n h71 (x5 + (1 : Int32))))
set_option maxRecDepth 20000 in
theorem l_X10_copy_34 {G : GG} {k78 : MH → Option (Int32 × MH)} {a0 : Nat} {x1 : Int32} {x3 : Int32} {x4 : Int32} (hk78 : ∀ (hz : MH) (r : (Int32 × MH)), k78 hz = some r → Ev G 1 M_X10_copy 78 [some (.ref a0), some (.int x1), none, some (.int x3), some (.int x4), none] [] hz (some (.int r.1)) r.2) : ∀ (n : Nat) (h : MH) (x5 : Int32) (r : (Int32 × MH)), f_X10_copy_L34 k78 a0 x1 x3 x4 n h x5 = some r → Ev G 1 M_X10_copy 34 [some (.ref a0), some (.int x1), none, some (.int x3), some (.int x4), some (.int x5)] [] h (some (.int r.1)) r.2 := by
  intro n
  induction n with
  | zero => intro h x5 r hf; rw [f_X10_copy_L34] at hf; cases hf
  | succ n ih =>
    intro h x5 r hf
    rw [f_X10_copy_L34] at hf
    refine ev_iload i_X10_copy_34 rfl ?_
    refine ev_bipush i_X10_copy_36 lt_b_24 ?_
    refine ev_icmp_ge (tg := 78) i_X10_copy_38 (by decide) (fun c38 => ?_) (fun c38 => ?_)
    · rw [if_pos c38] at hf
      refine ev_sub (lc2 := [some (.ref a0), some (.int x1), none, some (.int x3), some (.int x4), none]) ⟨Or.inr rfl, Or.inr rfl, Or.inr rfl, Or.inr rfl, Or.inr rfl, Or.inl rfl, trivial⟩ ?_
      exact hk78 h _ hf
    · rw [if_neg c38] at hf
      refine ev_aload_n i_X10_copy_41 rfl ?_
      obtain ⟨b42, e42, hf⟩ := ob hf
      refine ev_gR i_X10_copy_42 fl_X10_22 rfl e42 ?_
      refine ev_aload_n i_X10_copy_45 rfl ?_
      refine ev_iload i_X10_copy_46 rfl ?_
      refine ev_iload_n i_X10_copy_48 rfl ?_
      refine ev_iconst i_X10_copy_49 lt_i_0 ?_
      obtain ⟨v50, e50, hf⟩ := ob hf
      refine ev_cV_i i_X10_copy_50 lk_X10_copy_112 [.int x4, .int x1, .int (0 : Int32)] rfl rfl (by decide) (gK_of e50).1.1 (gK_of e50).1.2 (Nat.le_of_ble_eq_true rfl) (by decide) (e_X10_ruleAt e50) ?_
      refine ev_iload i_X10_copy_53 rfl ?_
      refine ev_iadd i_X10_copy_55 ?_
      refine ev_aload_n i_X10_copy_56 rfl ?_
      obtain ⟨b57, e57, hf⟩ := ob hf
      refine ev_gR i_X10_copy_57 fl_X10_22 rfl e57 ?_
      refine ev_aload_n i_X10_copy_60 rfl ?_
      refine ev_iload_n i_X10_copy_61 rfl ?_
      refine ev_iload_n i_X10_copy_62 rfl ?_
      refine ev_iconst i_X10_copy_63 lt_i_0 ?_
      obtain ⟨v64, e64, hf⟩ := ob hf
      refine ev_cV_i i_X10_copy_64 lk_X10_copy_112 [.int x3, .int x1, .int (0 : Int32)] rfl rfl (by decide) (gK_of e64).1.1 (gK_of e64).1.2 (Nat.le_of_ble_eq_true rfl) (by decide) (e_X10_ruleAt e64) ?_
      refine ev_iload i_X10_copy_67 rfl ?_
      refine ev_iadd i_X10_copy_69 ?_
      obtain ⟨v70, e70, hf⟩ := ob hf
      refine ev_aI i_X10_copy_70 e70 ?_
      obtain ⟨h71, e71, hf⟩ := ob hf
      refine ev_sI i_X10_copy_71 e71 ?_
      refine ev_iinc (y := (x5 + (1 : Int32))) i_X10_copy_72 rfl rfl (by decide) ?_
      refine ev_goto (tg := 34) i_X10_copy_75 (by decide) ?_
      exact ih h71 (x5 + (1 : Int32)) _ hf
def f_X10_copy_j25 (h : MH) (a0 : Nat) (x1 : Int32) (xs0 : Int32) : Option (Int32 × MH) := f_X10_copy_L34 (fun he78 => (gR he78 a0 10 6).bind fun b79 => (gR he78 a0 10 6).bind fun b90 => (aI he78 b90 (((7 : Int32) * xs0) + x1)).bind fun v99 => (sI he78 b79 (((7 : Int32) * ((1 : Int32) - xs0)) + x1) v99).bind fun h100 => (f_X10_changed h100 a0).bind fun h102 => (gR h102 a0 10 6).bind fun b106 => (aI h102 b106 (((7 : Int32) * ((1 : Int32) - xs0)) + x1)).bind fun v116 => some (v116, h102)) a0 x1 xs0 ((1 : Int32) - xs0) fuel h (0 : Int32)
set_option maxRecDepth 20000 in
theorem j_X10_copy_25 {G : GG} {h : MH} {a0 : Nat} {x1 : Int32} {xs0 : Int32} {r : (Int32 × MH)} (hf : f_X10_copy_j25 h a0 x1 xs0 = some r) : Ev G 1 M_X10_copy 25 [some (.ref a0), some (.int x1), none, none, none, none] [.int xs0] h (some (.int r.1)) r.2 := by
  unfold f_X10_copy_j25 at hf
  refine ev_istore_n i_X10_copy_25 (by decide) ?_
  refine ev_iconst i_X10_copy_26 lt_i_1 ?_
  refine ev_iload_n i_X10_copy_27 rfl ?_
  refine ev_isub i_X10_copy_28 ?_
  refine ev_istore i_X10_copy_29 (by decide) ?_
  refine ev_iconst i_X10_copy_31 lt_i_0 ?_
  refine ev_istore i_X10_copy_32 (by decide) ?_
  exact l_X10_copy_34 (fun he78 r hf => by
    refine ev_aload_n i_X10_copy_78 rfl ?_
    obtain ⟨b79, e79, hf⟩ := ob hf
    refine ev_gR i_X10_copy_79 fl_X10_19 rfl e79 ?_
    refine ev_bipush i_X10_copy_82 lt_b_7 ?_
    refine ev_iload i_X10_copy_84 rfl ?_
    refine ev_imul i_X10_copy_86 ?_
    refine ev_iload_n i_X10_copy_87 rfl ?_
    refine ev_iadd i_X10_copy_88 ?_
    refine ev_aload_n i_X10_copy_89 rfl ?_
    obtain ⟨b90, e90, hf⟩ := ob hf
    refine ev_gR i_X10_copy_90 fl_X10_19 rfl e90 ?_
    refine ev_bipush i_X10_copy_93 lt_b_7 ?_
    refine ev_iload_n i_X10_copy_95 rfl ?_
    refine ev_imul i_X10_copy_96 ?_
    refine ev_iload_n i_X10_copy_97 rfl ?_
    refine ev_iadd i_X10_copy_98 ?_
    obtain ⟨v99, e99, hf⟩ := ob hf
    refine ev_aI i_X10_copy_99 e99 ?_
    obtain ⟨h100, e100, hf⟩ := ob hf
    refine ev_sI i_X10_copy_100 e100 ?_
    refine ev_aload_n i_X10_copy_101 rfl ?_
    obtain ⟨h102, e102, hf⟩ := ob hf
    refine ev_cV_v i_X10_copy_102 lk_X10_copy_91 [] rfl rfl (by decide) (gK_of e102).1.1 (gK_of e102).1.2 (Nat.le_of_ble_eq_true rfl) (by decide) (e_X10_changed e102) ?_
    refine ev_aload_n i_X10_copy_105 rfl ?_
    obtain ⟨b106, e106, hf⟩ := ob hf
    refine ev_gR i_X10_copy_106 fl_X10_19 rfl e106 ?_
    refine ev_bipush i_X10_copy_109 lt_b_7 ?_
    refine ev_iload i_X10_copy_111 rfl ?_
    refine ev_imul i_X10_copy_113 ?_
    refine ev_iload_n i_X10_copy_114 rfl ?_
    refine ev_iadd i_X10_copy_115 ?_
    obtain ⟨v116, e116, hf⟩ := ob hf
    refine ev_aI i_X10_copy_116 e116 ?_
    cases hf
    exact ev_iiret i_X10_copy_117 rfl) fuel h (0 : Int32) _ hf
def f_X10_copy (h : MH) (a0 : Nat) (x1 : Int32) (x2 : Int32) : Option (Int32 × MH) := gK h a0 10 ((gI h a0 10 0).bind fun v3 => (f_X10_isIn h x1 (0 : Int32) (v3 - (1 : Int32))).bind fun v8 => (if v8 = 0 then (some ((-1 : Int32), h)) else ((if x2 = 0 then (f_X10_copy_j25 h a0 x1 (1 : Int32)) else (f_X10_copy_j25 h a0 x1 (0 : Int32))))))
set_option maxRecDepth 20000 in
theorem e_X10_copy {G : GG} {h : MH} {a0 : Nat} {x1 : Int32} {x2 : Int32} {r : (Int32 × MH)} (hf : f_X10_copy h a0 x1 x2 = some r) : Ev G 1 M_X10_copy 0 (ent M_X10_copy [.ref a0, .int x1, .int x2]) [] h (some (.int r.1)) r.2 := by
  unfold f_X10_copy at hf
  show Ev G 1 M_X10_copy 0 [some (.ref a0), some (.int x1), some (.int x2), none, none, none] [] h (some (.int r.1)) r.2
  obtain ⟨-, hf⟩ := gK_of hf
  refine ev_iload_n i_X10_copy_0 rfl ?_
  refine ev_iconst i_X10_copy_1 lt_i_0 ?_
  refine ev_aload_n i_X10_copy_2 rfl ?_
  obtain ⟨v3, e3, hf⟩ := ob hf
  refine ev_gI i_X10_copy_3 fl_X10_82 rfl e3 ?_
  refine ev_iconst i_X10_copy_6 lt_i_1 ?_
  refine ev_isub i_X10_copy_7 ?_
  obtain ⟨v8, e8, hf⟩ := ob hf
  refine ev_cS_i i_X10_copy_8 lk_X10_copy_94 [.int x1, .int (0 : Int32), .int (v3 - (1 : Int32))] rfl rfl (by decide) (Nat.le_of_ble_eq_true rfl) (by decide) (e_X10_isIn e8) ?_
  refine ev_if_ne (tg := 16) i_X10_copy_11 (by decide) (fun c11 => ?_) (fun c11 => ?_)
  · rw [if_neg c11] at hf
    refine ev_iload_n i_X10_copy_16 rfl ?_
    refine ev_if_eq (tg := 24) i_X10_copy_17 (by decide) (fun c17 => ?_) (fun c17 => ?_)
    · rw [if_pos c17] at hf
      refine ev_iconst i_X10_copy_24 lt_i_1 ?_
      refine ev_sub (lc2 := [some (.ref a0), some (.int x1), none, none, none, none]) ⟨Or.inr rfl, Or.inr rfl, Or.inl rfl, Or.inr rfl, Or.inr rfl, Or.inr rfl, trivial⟩ ?_
      exact j_X10_copy_25 hf
    · rw [if_neg c17] at hf
      refine ev_iconst i_X10_copy_20 lt_i_0 ?_
      refine ev_goto (tg := 25) i_X10_copy_21 (by decide) ?_
      refine ev_sub (lc2 := [some (.ref a0), some (.int x1), none, none, none, none]) ⟨Or.inr rfl, Or.inr rfl, Or.inl rfl, Or.inr rfl, Or.inr rfl, Or.inr rfl, trivial⟩ ?_
      exact j_X10_copy_25 hf
  · rw [if_pos c11] at hf
    refine ev_iconst i_X10_copy_14 lt_i_m1 ?_
    cases hf
    exact ev_iiret i_X10_copy_15 rfl
def f_X10_want_j88 (h : MH) (a0 : Nat) (x1 : Int32) (x2 : Int32) (x3 : Int32) (x4 : Int32) (x5 : Int32) (x6 : Int32) : Option (Int32 × MH) := (gI h a0 10 2).bind fun v91 => (gR h a0 10 8).bind fun b98 => (sI h b98 ((6 : Int32) * v91) x1).bind fun h104 => (gR h104 a0 10 8).bind fun b106 => (sI h104 b106 (((6 : Int32) * v91) + (1 : Int32)) x2).bind fun h114 => (gR h114 a0 10 8).bind fun b116 => (sI h114 b116 (((6 : Int32) * v91) + (2 : Int32)) x3).bind fun h124 => (gR h124 a0 10 8).bind fun b126 => (sI h124 b126 (((6 : Int32) * v91) + (3 : Int32)) x4).bind fun h135 => (gR h135 a0 10 8).bind fun b137 => (sI h135 b137 (((6 : Int32) * v91) + (4 : Int32)) x5).bind fun h146 => (gR h146 a0 10 8).bind fun b148 => (sI h146 b148 (((6 : Int32) * v91) + (5 : Int32)) x6).bind fun h157 => (gI h157 a0 10 2).bind fun v160 => (pI h157 a0 10 2 (v160 + (1 : Int32))).bind fun h165 => (f_X10_changed h165 a0).bind fun h169 => (gI h169 a0 10 2).bind fun v173 => some ((v173 - (1 : Int32)), h169)
set_option maxRecDepth 20000 in
theorem j_X10_want_88 {G : GG} {h : MH} {a0 : Nat} {x1 : Int32} {x2 : Int32} {x3 : Int32} {x4 : Int32} {x5 : Int32} {x6 : Int32} {r : (Int32 × MH)} (hf : f_X10_want_j88 h a0 x1 x2 x3 x4 x5 x6 = some r) : Ev G 2 M_X10_want 88 [some (.ref a0), some (.int x1), some (.int x2), some (.int x3), some (.int x4), some (.int x5), some (.int x6), none] [] h (some (.int r.1)) r.2 := by
  unfold f_X10_want_j88 at hf
  refine ev_bipush i_X10_want_88 lt_b_6 ?_
  refine ev_aload_n i_X10_want_90 rfl ?_
  obtain ⟨v91, e91, hf⟩ := ob hf
  refine ev_gI i_X10_want_91 fl_X10_88 rfl e91 ?_
  refine ev_imul i_X10_want_94 ?_
  refine ev_istore i_X10_want_95 (by decide) ?_
  refine ev_aload_n i_X10_want_97 rfl ?_
  obtain ⟨b98, e98, hf⟩ := ob hf
  refine ev_gR i_X10_want_98 fl_X10_25 rfl e98 ?_
  refine ev_iload i_X10_want_101 rfl ?_
  refine ev_iload_n i_X10_want_103 rfl ?_
  obtain ⟨h104, e104, hf⟩ := ob hf
  refine ev_sI i_X10_want_104 e104 ?_
  refine ev_aload_n i_X10_want_105 rfl ?_
  obtain ⟨b106, e106, hf⟩ := ob hf
  refine ev_gR i_X10_want_106 fl_X10_25 rfl e106 ?_
  refine ev_iload i_X10_want_109 rfl ?_
  refine ev_iconst i_X10_want_111 lt_i_1 ?_
  refine ev_iadd i_X10_want_112 ?_
  refine ev_iload_n i_X10_want_113 rfl ?_
  obtain ⟨h114, e114, hf⟩ := ob hf
  refine ev_sI i_X10_want_114 e114 ?_
  refine ev_aload_n i_X10_want_115 rfl ?_
  obtain ⟨b116, e116, hf⟩ := ob hf
  refine ev_gR i_X10_want_116 fl_X10_25 rfl e116 ?_
  refine ev_iload i_X10_want_119 rfl ?_
  refine ev_iconst i_X10_want_121 lt_i_2 ?_
  refine ev_iadd i_X10_want_122 ?_
  refine ev_iload_n i_X10_want_123 rfl ?_
  obtain ⟨h124, e124, hf⟩ := ob hf
  refine ev_sI i_X10_want_124 e124 ?_
  refine ev_aload_n i_X10_want_125 rfl ?_
  obtain ⟨b126, e126, hf⟩ := ob hf
  refine ev_gR i_X10_want_126 fl_X10_25 rfl e126 ?_
  refine ev_iload i_X10_want_129 rfl ?_
  refine ev_iconst i_X10_want_131 lt_i_3 ?_
  refine ev_iadd i_X10_want_132 ?_
  refine ev_iload i_X10_want_133 rfl ?_
  obtain ⟨h135, e135, hf⟩ := ob hf
  refine ev_sI i_X10_want_135 e135 ?_
  refine ev_aload_n i_X10_want_136 rfl ?_
  obtain ⟨b137, e137, hf⟩ := ob hf
  refine ev_gR i_X10_want_137 fl_X10_25 rfl e137 ?_
  refine ev_iload i_X10_want_140 rfl ?_
  refine ev_iconst i_X10_want_142 lt_i_4 ?_
  refine ev_iadd i_X10_want_143 ?_
  refine ev_iload i_X10_want_144 rfl ?_
  obtain ⟨h146, e146, hf⟩ := ob hf
  refine ev_sI i_X10_want_146 e146 ?_
  refine ev_aload_n i_X10_want_147 rfl ?_
  obtain ⟨b148, e148, hf⟩ := ob hf
  refine ev_gR i_X10_want_148 fl_X10_25 rfl e148 ?_
  refine ev_iload i_X10_want_151 rfl ?_
  refine ev_iconst i_X10_want_153 lt_i_5 ?_
  refine ev_iadd i_X10_want_154 ?_
  refine ev_iload i_X10_want_155 rfl ?_
  obtain ⟨h157, e157, hf⟩ := ob hf
  refine ev_sI i_X10_want_157 e157 ?_
  refine ev_aload_n i_X10_want_158 rfl ?_
  refine ev_dup i_X10_want_159 ?_
  obtain ⟨v160, e160, hf⟩ := ob hf
  refine ev_gI i_X10_want_160 fl_X10_88 rfl e160 ?_
  refine ev_iconst i_X10_want_163 lt_i_1 ?_
  refine ev_iadd i_X10_want_164 ?_
  obtain ⟨h165, e165, hf⟩ := ob hf
  refine ev_pI i_X10_want_165 fp_X10_want_88 rfl e165 ?_
  refine ev_aload_n i_X10_want_168 rfl ?_
  obtain ⟨h169, e169, hf⟩ := ob hf
  refine ev_cV_v i_X10_want_169 lk_X10_want_91 [] rfl rfl (by decide) (gK_of e169).1.1 (gK_of e169).1.2 (Nat.le_of_ble_eq_true rfl) (by decide) (e_X10_changed e169) ?_
  refine ev_aload_n i_X10_want_172 rfl ?_
  obtain ⟨v173, e173, hf⟩ := ob hf
  refine ev_gI i_X10_want_173 fl_X10_88 rfl e173 ?_
  refine ev_iconst i_X10_want_176 lt_i_1 ?_
  refine ev_isub i_X10_want_177 ?_
  cases hf
  exact ev_iiret i_X10_want_178 rfl
def f_X10_want_j66 (h : MH) (a0 : Nat) (x1 : Int32) (x2 : Int32) (x3 : Int32) (x4 : Int32) (x5 : Int32) (x6 : Int32) : Option (Int32 × MH) := (if x1 = (3 : Int32) then ((gI h a0 10 0).bind fun v75 => (f_X10_isIn h x6 (0 : Int32) (v75 - (1 : Int32))).bind fun v80 => (if v80 = 0 then (some ((-1 : Int32), h)) else (f_X10_want_j88 h a0 x1 x2 x3 x4 x5 x6))) else (f_X10_want_j88 h a0 x1 x2 x3 x4 x5 x6))
set_option maxRecDepth 20000 in
theorem j_X10_want_66 {G : GG} {h : MH} {a0 : Nat} {x1 : Int32} {x2 : Int32} {x3 : Int32} {x4 : Int32} {x5 : Int32} {x6 : Int32} {r : (Int32 × MH)} (hf : f_X10_want_j66 h a0 x1 x2 x3 x4 x5 x6 = some r) : Ev G 2 M_X10_want 66 [some (.ref a0), some (.int x1), some (.int x2), some (.int x3), some (.int x4), some (.int x5), some (.int x6), none] [] h (some (.int r.1)) r.2 := by
  unfold f_X10_want_j66 at hf
  refine ev_iload_n i_X10_want_66 rfl ?_
  refine ev_iconst i_X10_want_67 lt_i_3 ?_
  refine ev_icmp_ne (tg := 88) i_X10_want_68 (by decide) (fun c68 => ?_) (fun c68 => ?_)
  · rw [if_neg c68] at hf
    exact j_X10_want_88 hf
  · rw [if_pos c68] at hf
    refine ev_iload i_X10_want_71 rfl ?_
    refine ev_iconst i_X10_want_73 lt_i_0 ?_
    refine ev_aload_n i_X10_want_74 rfl ?_
    obtain ⟨v75, e75, hf⟩ := ob hf
    refine ev_gI i_X10_want_75 fl_X10_82 rfl e75 ?_
    refine ev_iconst i_X10_want_78 lt_i_1 ?_
    refine ev_isub i_X10_want_79 ?_
    obtain ⟨v80, e80, hf⟩ := ob hf
    refine ev_cS_i i_X10_want_80 lk_X10_want_94 [.int x6, .int (0 : Int32), .int (v75 - (1 : Int32))] rfl rfl (by decide) (Nat.le_of_ble_eq_true rfl) (by decide) (e_X10_isIn e80) ?_
    refine ev_if_ne (tg := 88) i_X10_want_83 (by decide) (fun c83 => ?_) (fun c83 => ?_)
    · rw [if_neg c83] at hf
      exact j_X10_want_88 hf
    · rw [if_pos c83] at hf
      refine ev_iconst i_X10_want_86 lt_i_m1 ?_
      cases hf
      exact ev_iiret i_X10_want_87 rfl
def f_X10_want (h : MH) (a0 : Nat) (x1 : Int32) (x2 : Int32) (x3 : Int32) (x4 : Int32) (x5 : Int32) (x6 : Int32) : Option (Int32 × MH) := gK h a0 10 ((f_X10_isIn h x1 (0 : Int32) (4 : Int32)).bind fun v3 => (if v3 = 0 then (some ((-1 : Int32), h)) else ((f_X10_isSpan h a0 x2 x3).bind fun v12 => (if v12 = 0 then (some ((-1 : Int32), h)) else ((gI h a0 10 1).bind fun v22 => (f_X10_isIn h x4 (0 : Int32) (v22 - (1 : Int32))).bind fun v27 => (if v27 = 0 then (some ((-1 : Int32), h)) else ((gI h a0 10 2).bind fun v34 => (if v34 = (10 : Int32) then (some ((-1 : Int32), h)) else ((f_X10_hasGoal h x1).bind fun v45 => (if v45 = 0 then (f_X10_want_j66 h a0 x1 x2 x3 x4 x5 x6) else ((gI h a0 10 1).bind fun v55 => (f_X10_isIn h x5 (0 : Int32) (v55 - (1 : Int32))).bind fun v60 => (if v60 = 0 then (some ((-1 : Int32), h)) else (f_X10_want_j66 h a0 x1 x2 x3 x4 x5 x6)))))))))))))
set_option maxRecDepth 20000 in
theorem e_X10_want {G : GG} {h : MH} {a0 : Nat} {x1 : Int32} {x2 : Int32} {x3 : Int32} {x4 : Int32} {x5 : Int32} {x6 : Int32} {r : (Int32 × MH)} (hf : f_X10_want h a0 x1 x2 x3 x4 x5 x6 = some r) : Ev G 2 M_X10_want 0 (ent M_X10_want [.ref a0, .int x1, .int x2, .int x3, .int x4, .int x5, .int x6]) [] h (some (.int r.1)) r.2 := by
  unfold f_X10_want at hf
  show Ev G 2 M_X10_want 0 [some (.ref a0), some (.int x1), some (.int x2), some (.int x3), some (.int x4), some (.int x5), some (.int x6), none] [] h (some (.int r.1)) r.2
  obtain ⟨-, hf⟩ := gK_of hf
  refine ev_iload_n i_X10_want_0 rfl ?_
  refine ev_iconst i_X10_want_1 lt_i_0 ?_
  refine ev_iconst i_X10_want_2 lt_i_4 ?_
  obtain ⟨v3, e3, hf⟩ := ob hf
  refine ev_cS_i i_X10_want_3 lk_X10_want_94 [.int x1, .int (0 : Int32), .int (4 : Int32)] rfl rfl (by decide) (Nat.le_of_ble_eq_true rfl) (by decide) (e_X10_isIn e3) ?_
  refine ev_if_eq (tg := 42) i_X10_want_6 (by decide) (fun c6 => ?_) (fun c6 => ?_)
  · rw [if_pos c6] at hf
    refine ev_iconst i_X10_want_42 lt_i_m1 ?_
    cases hf
    exact ev_iiret i_X10_want_43 rfl
  · rw [if_neg c6] at hf
    refine ev_aload_n i_X10_want_9 rfl ?_
    refine ev_iload_n i_X10_want_10 rfl ?_
    refine ev_iload_n i_X10_want_11 rfl ?_
    obtain ⟨v12, e12, hf⟩ := ob hf
    refine ev_cV_i i_X10_want_12 lk_X10_want_109 [.int x2, .int x3] rfl rfl (by decide) (gK_of e12).1.1 (gK_of e12).1.2 (Nat.le_of_ble_eq_true rfl) (by decide) (e_X10_isSpan e12) ?_
    refine ev_if_eq (tg := 42) i_X10_want_15 (by decide) (fun c15 => ?_) (fun c15 => ?_)
    · rw [if_pos c15] at hf
      refine ev_iconst i_X10_want_42 lt_i_m1 ?_
      cases hf
      exact ev_iiret i_X10_want_43 rfl
    · rw [if_neg c15] at hf
      refine ev_iload i_X10_want_18 rfl ?_
      refine ev_iconst i_X10_want_20 lt_i_0 ?_
      refine ev_aload_n i_X10_want_21 rfl ?_
      obtain ⟨v22, e22, hf⟩ := ob hf
      refine ev_gI i_X10_want_22 fl_X10_85 rfl e22 ?_
      refine ev_iconst i_X10_want_25 lt_i_1 ?_
      refine ev_isub i_X10_want_26 ?_
      obtain ⟨v27, e27, hf⟩ := ob hf
      refine ev_cS_i i_X10_want_27 lk_X10_want_94 [.int x4, .int (0 : Int32), .int (v22 - (1 : Int32))] rfl rfl (by decide) (Nat.le_of_ble_eq_true rfl) (by decide) (e_X10_isIn e27) ?_
      refine ev_if_eq (tg := 42) i_X10_want_30 (by decide) (fun c30 => ?_) (fun c30 => ?_)
      · rw [if_pos c30] at hf
        refine ev_iconst i_X10_want_42 lt_i_m1 ?_
        cases hf
        exact ev_iiret i_X10_want_43 rfl
      · rw [if_neg c30] at hf
        refine ev_aload_n i_X10_want_33 rfl ?_
        obtain ⟨v34, e34, hf⟩ := ob hf
        refine ev_gI i_X10_want_34 fl_X10_88 rfl e34 ?_
        refine ev_bipush i_X10_want_37 lt_b_10 ?_
        refine ev_icmp_ne (tg := 44) i_X10_want_39 (by decide) (fun c39 => ?_) (fun c39 => ?_)
        · rw [if_neg c39] at hf
          refine ev_iload_n i_X10_want_44 rfl ?_
          obtain ⟨v45, e45, hf⟩ := ob hf
          refine ev_cS_i i_X10_want_45 lk_X10_want_102 [.int x1] rfl rfl (by decide) (Nat.le_of_ble_eq_true rfl) (by decide) (e_X10_hasGoal e45) ?_
          refine ev_if_eq (tg := 66) i_X10_want_48 (by decide) (fun c48 => ?_) (fun c48 => ?_)
          · rw [if_pos c48] at hf
            exact j_X10_want_66 hf
          · rw [if_neg c48] at hf
            refine ev_iload i_X10_want_51 rfl ?_
            refine ev_iconst i_X10_want_53 lt_i_0 ?_
            refine ev_aload_n i_X10_want_54 rfl ?_
            obtain ⟨v55, e55, hf⟩ := ob hf
            refine ev_gI i_X10_want_55 fl_X10_85 rfl e55 ?_
            refine ev_iconst i_X10_want_58 lt_i_1 ?_
            refine ev_isub i_X10_want_59 ?_
            obtain ⟨v60, e60, hf⟩ := ob hf
            refine ev_cS_i i_X10_want_60 lk_X10_want_94 [.int x5, .int (0 : Int32), .int (v55 - (1 : Int32))] rfl rfl (by decide) (Nat.le_of_ble_eq_true rfl) (by decide) (e_X10_isIn e60) ?_
            refine ev_if_eq (tg := 86) i_X10_want_63 (by decide) (fun c63 => ?_) (fun c63 => ?_)
            · rw [if_pos c63] at hf
              refine ev_iconst i_X10_want_86 lt_i_m1 ?_
              cases hf
              exact ev_iiret i_X10_want_87 rfl
            · rw [if_neg c63] at hf
              exact j_X10_want_66 hf
        · rw [if_pos c39] at hf
          refine ev_iconst i_X10_want_42 lt_i_m1 ?_
          cases hf
          exact ev_iiret i_X10_want_43 rfl
def f_X10_unwant_L21 (k56 : MH → Option (Int32 × MH)) (a0 : Nat) : Nat → MH → Int32 → Option (Int32 × MH)
  | 0, _, _ => none
  | n + 1, h, x2 => (gI h a0 10 2).bind fun v25 => (if (((6 : Int32) * v25) - (6 : Int32)) ≤ x2 then (k56 h) else ((gR h a0 10 8).bind fun b36 => (gR h a0 10 8).bind fun b41 => (aI h b41 (x2 + (6 : Int32))).bind fun v48 => (sI h b36 x2 v48).bind fun h49 => f_X10_unwant_L21 k56 a0 n h49 (x2 + (1 : Int32))))
set_option maxRecDepth 20000 in
theorem l_X10_unwant_21 {G : GG} {k56 : MH → Option (Int32 × MH)} {a0 : Nat} (hk56 : ∀ (hz : MH) (r : (Int32 × MH)), k56 hz = some r → Ev G 1 M_X10_unwant 56 [some (.ref a0), none, none] [] hz (some (.int r.1)) r.2) : ∀ (n : Nat) (h : MH) (x2 : Int32) (r : (Int32 × MH)), f_X10_unwant_L21 k56 a0 n h x2 = some r → Ev G 1 M_X10_unwant 21 [some (.ref a0), none, some (.int x2)] [] h (some (.int r.1)) r.2 := by
  intro n
  induction n with
  | zero => intro h x2 r hf; rw [f_X10_unwant_L21] at hf; cases hf
  | succ n ih =>
    intro h x2 r hf
    rw [f_X10_unwant_L21] at hf
    refine ev_iload_n i_X10_unwant_21 rfl ?_
    refine ev_bipush i_X10_unwant_22 lt_b_6 ?_
    refine ev_aload_n i_X10_unwant_24 rfl ?_
    obtain ⟨v25, e25, hf⟩ := ob hf
    refine ev_gI i_X10_unwant_25 fl_X10_88 rfl e25 ?_
    refine ev_imul i_X10_unwant_28 ?_
    refine ev_bipush i_X10_unwant_29 lt_b_6 ?_
    refine ev_isub i_X10_unwant_31 ?_
    refine ev_icmp_ge (tg := 56) i_X10_unwant_32 (by decide) (fun c32 => ?_) (fun c32 => ?_)
    · rw [if_pos c32] at hf
      refine ev_sub (lc2 := [some (.ref a0), none, none]) ⟨Or.inr rfl, Or.inr rfl, Or.inl rfl, trivial⟩ ?_
      exact hk56 h _ hf
    · rw [if_neg c32] at hf
      refine ev_aload_n i_X10_unwant_35 rfl ?_
      obtain ⟨b36, e36, hf⟩ := ob hf
      refine ev_gR i_X10_unwant_36 fl_X10_25 rfl e36 ?_
      refine ev_iload_n i_X10_unwant_39 rfl ?_
      refine ev_aload_n i_X10_unwant_40 rfl ?_
      obtain ⟨b41, e41, hf⟩ := ob hf
      refine ev_gR i_X10_unwant_41 fl_X10_25 rfl e41 ?_
      refine ev_iload_n i_X10_unwant_44 rfl ?_
      refine ev_bipush i_X10_unwant_45 lt_b_6 ?_
      refine ev_iadd i_X10_unwant_47 ?_
      obtain ⟨v48, e48, hf⟩ := ob hf
      refine ev_aI i_X10_unwant_48 e48 ?_
      obtain ⟨h49, e49, hf⟩ := ob hf
      refine ev_sI i_X10_unwant_49 e49 ?_
      refine ev_iinc (y := (x2 + (1 : Int32))) i_X10_unwant_50 rfl rfl (by decide) ?_
      refine ev_goto (tg := 21) i_X10_unwant_53 (by decide) ?_
      exact ih h49 (x2 + (1 : Int32)) _ hf
def f_X10_unwant (h : MH) (a0 : Nat) (x1 : Int32) : Option (Int32 × MH) := gK h a0 10 ((gI h a0 10 2).bind fun v3 => (f_X10_isIn h x1 (0 : Int32) (v3 - (1 : Int32))).bind fun v8 => (if v8 = 0 then (some ((-1 : Int32), h)) else (f_X10_unwant_L21 (fun he56 => (gI he56 a0 10 2).bind fun v58 => (pI he56 a0 10 2 (v58 - (1 : Int32))).bind fun h63 => (f_X10_changed h63 a0).bind fun h67 => (gI h67 a0 10 2).bind fun v71 => some (v71, h67)) a0 fuel h ((6 : Int32) * x1))))
set_option maxRecDepth 20000 in
theorem e_X10_unwant {G : GG} {h : MH} {a0 : Nat} {x1 : Int32} {r : (Int32 × MH)} (hf : f_X10_unwant h a0 x1 = some r) : Ev G 1 M_X10_unwant 0 (ent M_X10_unwant [.ref a0, .int x1]) [] h (some (.int r.1)) r.2 := by
  unfold f_X10_unwant at hf
  show Ev G 1 M_X10_unwant 0 [some (.ref a0), some (.int x1), none] [] h (some (.int r.1)) r.2
  obtain ⟨-, hf⟩ := gK_of hf
  refine ev_iload_n i_X10_unwant_0 rfl ?_
  refine ev_iconst i_X10_unwant_1 lt_i_0 ?_
  refine ev_aload_n i_X10_unwant_2 rfl ?_
  obtain ⟨v3, e3, hf⟩ := ob hf
  refine ev_gI i_X10_unwant_3 fl_X10_88 rfl e3 ?_
  refine ev_iconst i_X10_unwant_6 lt_i_1 ?_
  refine ev_isub i_X10_unwant_7 ?_
  obtain ⟨v8, e8, hf⟩ := ob hf
  refine ev_cS_i i_X10_unwant_8 lk_X10_unwant_94 [.int x1, .int (0 : Int32), .int (v3 - (1 : Int32))] rfl rfl (by decide) (Nat.le_of_ble_eq_true rfl) (by decide) (e_X10_isIn e8) ?_
  refine ev_if_ne (tg := 16) i_X10_unwant_11 (by decide) (fun c11 => ?_) (fun c11 => ?_)
  · rw [if_neg c11] at hf
    refine ev_bipush i_X10_unwant_16 lt_b_6 ?_
    refine ev_iload_n i_X10_unwant_18 rfl ?_
    refine ev_imul i_X10_unwant_19 ?_
    refine ev_istore_n i_X10_unwant_20 (by decide) ?_
    refine ev_sub (lc2 := [some (.ref a0), none, some (.int ((6 : Int32) * x1))]) ⟨Or.inr rfl, Or.inl rfl, Or.inr rfl, trivial⟩ ?_
    exact l_X10_unwant_21 (fun he56 r hf => by
      refine ev_aload_n i_X10_unwant_56 rfl ?_
      refine ev_dup i_X10_unwant_57 ?_
      obtain ⟨v58, e58, hf⟩ := ob hf
      refine ev_gI i_X10_unwant_58 fl_X10_88 rfl e58 ?_
      refine ev_iconst i_X10_unwant_61 lt_i_1 ?_
      refine ev_isub i_X10_unwant_62 ?_
      obtain ⟨h63, e63, hf⟩ := ob hf
      refine ev_pI i_X10_unwant_63 fp_X10_unwant_88 rfl e63 ?_
      refine ev_aload_n i_X10_unwant_66 rfl ?_
      obtain ⟨h67, e67, hf⟩ := ob hf
      refine ev_cV_v i_X10_unwant_67 lk_X10_unwant_91 [] rfl rfl (by decide) (gK_of e67).1.1 (gK_of e67).1.2 (Nat.le_of_ble_eq_true rfl) (by decide) (e_X10_changed e67) ?_
      refine ev_aload_n i_X10_unwant_70 rfl ?_
      obtain ⟨v71, e71, hf⟩ := ob hf
      refine ev_gI i_X10_unwant_71 fl_X10_88 rfl e71 ?_
      cases hf
      exact ev_iiret i_X10_unwant_74 rfl) fuel h ((6 : Int32) * x1) _ hf
  · rw [if_pos c11] at hf
    refine ev_iconst i_X10_unwant_14 lt_i_m1 ?_
    cases hf
    exact ev_iiret i_X10_unwant_15 rfl
def f_X10_isOfSpan (h : MH) (x0 : Int32) (x1 : Int32) (x2 : Int32) : Option Int32 := (if (x0 &&& x2) = (x1 &&& x2) then (some (1 : Int32)) else (some (0 : Int32)))
set_option maxRecDepth 20000 in
theorem e_X10_isOfSpan {G : GG} {h : MH} {x0 : Int32} {x1 : Int32} {x2 : Int32} {r : Int32} (hf : f_X10_isOfSpan h x0 x1 x2 = some r) : Ev G 0 M_X10_isOfSpan 0 (ent M_X10_isOfSpan [.int x0, .int x1, .int x2]) [] h (some (.int r)) h := by
  unfold f_X10_isOfSpan at hf
  show Ev G 0 M_X10_isOfSpan 0 [some (.int x0), some (.int x1), some (.int x2)] [] h (some (.int r)) h
  refine ev_iload_n i_X10_isOfSpan_0 rfl ?_
  refine ev_iload_n i_X10_isOfSpan_1 rfl ?_
  refine ev_iand i_X10_isOfSpan_2 ?_
  refine ev_iload_n i_X10_isOfSpan_3 rfl ?_
  refine ev_iload_n i_X10_isOfSpan_4 rfl ?_
  refine ev_iand i_X10_isOfSpan_5 ?_
  refine ev_icmp_ne (tg := 13) i_X10_isOfSpan_6 (by decide) (fun c6 => ?_) (fun c6 => ?_)
  · rw [if_neg c6] at hf
    refine ev_iconst i_X10_isOfSpan_13 lt_i_0 ?_
    cases hf
    exact ev_zret i_X10_isOfSpan_14 rfl (by decide)
  · rw [if_pos c6] at hf
    refine ev_iconst i_X10_isOfSpan_9 lt_i_1 ?_
    refine ev_goto (tg := 14) i_X10_isOfSpan_10 (by decide) ?_
    cases hf
    exact ev_zret i_X10_isOfSpan_14 rfl (by decide)
def f_X10_actOf_L9 (k103 : Int32 → Option Int32) (h : MH) (a0 : Nat) (x1 : Int32) (x2 : Int32) (x3 : Int32) : Nat → Int32 → Int32 → Int32 → Option Int32
  | 0, _, _, _ => none
  | n + 1, x4, x5, x6 => (gR h a0 10 6).bind fun b12 => (aI h b12 (((7 : Int32) * x1) + x2)).bind fun v21 => (if v21 ≤ x6 then (k103 x4) else ((f_X10_ruleAt h a0 x1 x2 x6).bind fun v30 => (gR h a0 10 7).bind fun b37 => (aI h b37 v30).bind fun v42 => (gR h a0 10 7).bind fun b44 => (aI h b44 (v30 + (1 : Int32))).bind fun v51 => (f_X10_isOfSpan h x3 v42 v51).bind fun v52 => (if v52 = 0 then (f_X10_actOf_L9 k103 h a0 x1 x2 x3 n x4 x5 (x6 + (1 : Int32))) else ((gR h a0 10 7).bind fun b59 => (aI h b59 (v30 + (2 : Int32))).bind fun v66 => (if x5 < v66 then ((gR h a0 10 7).bind fun b76 => (aI h b76 (v30 + (2 : Int32))).bind fun v83 => (gR h a0 10 7).bind fun b87 => (aI h b87 (v30 + (3 : Int32))).bind fun v94 => f_X10_actOf_L9 k103 h a0 x1 x2 x3 n v94 v83 (x6 + (1 : Int32))) else (f_X10_actOf_L9 k103 h a0 x1 x2 x3 n x4 x5 (x6 + (1 : Int32))))))))
set_option maxRecDepth 20000 in
theorem l_X10_actOf_9 {G : GG} {k103 : Int32 → Option Int32} {h : MH} {a0 : Nat} {x1 : Int32} {x2 : Int32} {x3 : Int32} (hk103 : ∀ (x4z : Int32) (r : Int32), k103 x4z = some r → Ev G 1 M_X10_actOf 103 [none, none, none, none, some (.int x4z), none, none, none] [] h (some (.int r)) h) : ∀ (n : Nat) (x4 : Int32) (x5 : Int32) (x6 : Int32) (r : Int32), f_X10_actOf_L9 k103 h a0 x1 x2 x3 n x4 x5 x6 = some r → Ev G 1 M_X10_actOf 9 [some (.ref a0), some (.int x1), some (.int x2), some (.int x3), some (.int x4), some (.int x5), some (.int x6), none] [] h (some (.int r)) h := by
  intro n
  induction n with
  | zero => intro x4 x5 x6 r hf; rw [f_X10_actOf_L9] at hf; cases hf
  | succ n ih =>
    intro x4 x5 x6 r hf
    rw [f_X10_actOf_L9] at hf
    refine ev_iload i_X10_actOf_9 rfl ?_
    refine ev_aload_n i_X10_actOf_11 rfl ?_
    obtain ⟨b12, e12, hf⟩ := ob hf
    refine ev_gR i_X10_actOf_12 fl_X10_19 rfl e12 ?_
    refine ev_bipush i_X10_actOf_15 lt_b_7 ?_
    refine ev_iload_n i_X10_actOf_17 rfl ?_
    refine ev_imul i_X10_actOf_18 ?_
    refine ev_iload_n i_X10_actOf_19 rfl ?_
    refine ev_iadd i_X10_actOf_20 ?_
    obtain ⟨v21, e21, hf⟩ := ob hf
    refine ev_aI i_X10_actOf_21 e21 ?_
    refine ev_icmp_ge (tg := 103) i_X10_actOf_22 (by decide) (fun c22 => ?_) (fun c22 => ?_)
    · rw [if_pos c22] at hf
      refine ev_sub (lc2 := [none, none, none, none, some (.int x4), none, none, none]) ⟨Or.inl rfl, Or.inl rfl, Or.inl rfl, Or.inl rfl, Or.inr rfl, Or.inl rfl, Or.inl rfl, Or.inr rfl, trivial⟩ ?_
      exact hk103 x4 _ hf
    · rw [if_neg c22] at hf
      refine ev_aload_n i_X10_actOf_25 rfl ?_
      refine ev_iload_n i_X10_actOf_26 rfl ?_
      refine ev_iload_n i_X10_actOf_27 rfl ?_
      refine ev_iload i_X10_actOf_28 rfl ?_
      obtain ⟨v30, e30, hf⟩ := ob hf
      refine ev_cV_i i_X10_actOf_30 lk_X10_actOf_112 [.int x1, .int x2, .int x6] rfl rfl (by decide) (gK_of e30).1.1 (gK_of e30).1.2 (Nat.le_of_ble_eq_true rfl) (by decide) (e_X10_ruleAt e30) ?_
      refine ev_istore i_X10_actOf_33 (by decide) ?_
      refine ev_iload_n i_X10_actOf_35 rfl ?_
      refine ev_aload_n i_X10_actOf_36 rfl ?_
      obtain ⟨b37, e37, hf⟩ := ob hf
      refine ev_gR i_X10_actOf_37 fl_X10_22 rfl e37 ?_
      refine ev_iload i_X10_actOf_40 rfl ?_
      obtain ⟨v42, e42, hf⟩ := ob hf
      refine ev_aI i_X10_actOf_42 e42 ?_
      refine ev_aload_n i_X10_actOf_43 rfl ?_
      obtain ⟨b44, e44, hf⟩ := ob hf
      refine ev_gR i_X10_actOf_44 fl_X10_22 rfl e44 ?_
      refine ev_iload i_X10_actOf_47 rfl ?_
      refine ev_iconst i_X10_actOf_49 lt_i_1 ?_
      refine ev_iadd i_X10_actOf_50 ?_
      obtain ⟨v51, e51, hf⟩ := ob hf
      refine ev_aI i_X10_actOf_51 e51 ?_
      obtain ⟨v52, e52, hf⟩ := ob hf
      refine ev_cS_i i_X10_actOf_52 lk_X10_actOf_116 [.int x3, .int v42, .int v51] rfl rfl (by decide) (Nat.le_of_ble_eq_true rfl) (by decide) (e_X10_isOfSpan e52) ?_
      refine ev_if_eq (tg := 97) i_X10_actOf_55 (by decide) (fun c55 => ?_) (fun c55 => ?_)
      · rw [if_pos c55] at hf
        refine ev_iinc (y := (x6 + (1 : Int32))) i_X10_actOf_97 rfl rfl (by decide) ?_
        refine ev_goto (tg := 9) i_X10_actOf_100 (by decide) ?_
        refine ev_sub (lc2 := [some (.ref a0), some (.int x1), some (.int x2), some (.int x3), some (.int x4), some (.int x5), some (.int (x6 + (1 : Int32))), none]) ⟨Or.inr rfl, Or.inr rfl, Or.inr rfl, Or.inr rfl, Or.inr rfl, Or.inr rfl, Or.inr rfl, Or.inl rfl, trivial⟩ ?_
        exact ih x4 x5 (x6 + (1 : Int32)) _ hf
      · rw [if_neg c55] at hf
        refine ev_aload_n i_X10_actOf_58 rfl ?_
        obtain ⟨b59, e59, hf⟩ := ob hf
        refine ev_gR i_X10_actOf_59 fl_X10_22 rfl e59 ?_
        refine ev_iload i_X10_actOf_62 rfl ?_
        refine ev_iconst i_X10_actOf_64 lt_i_2 ?_
        refine ev_iadd i_X10_actOf_65 ?_
        obtain ⟨v66, e66, hf⟩ := ob hf
        refine ev_aI i_X10_actOf_66 e66 ?_
        refine ev_iload i_X10_actOf_67 rfl ?_
        refine ev_icmp_gt (tg := 75) i_X10_actOf_69 (by decide) (fun c69 => ?_) (fun c69 => ?_)
        · rw [if_pos c69] at hf
          refine ev_aload_n i_X10_actOf_75 rfl ?_
          obtain ⟨b76, e76, hf⟩ := ob hf
          refine ev_gR i_X10_actOf_76 fl_X10_22 rfl e76 ?_
          refine ev_iload i_X10_actOf_79 rfl ?_
          refine ev_iconst i_X10_actOf_81 lt_i_2 ?_
          refine ev_iadd i_X10_actOf_82 ?_
          obtain ⟨v83, e83, hf⟩ := ob hf
          refine ev_aI i_X10_actOf_83 e83 ?_
          refine ev_istore i_X10_actOf_84 (by decide) ?_
          refine ev_aload_n i_X10_actOf_86 rfl ?_
          obtain ⟨b87, e87, hf⟩ := ob hf
          refine ev_gR i_X10_actOf_87 fl_X10_22 rfl e87 ?_
          refine ev_iload i_X10_actOf_90 rfl ?_
          refine ev_iconst i_X10_actOf_92 lt_i_3 ?_
          refine ev_iadd i_X10_actOf_93 ?_
          obtain ⟨v94, e94, hf⟩ := ob hf
          refine ev_aI i_X10_actOf_94 e94 ?_
          refine ev_istore i_X10_actOf_95 (by decide) ?_
          refine ev_iinc (y := (x6 + (1 : Int32))) i_X10_actOf_97 rfl rfl (by decide) ?_
          refine ev_goto (tg := 9) i_X10_actOf_100 (by decide) ?_
          refine ev_sub (lc2 := [some (.ref a0), some (.int x1), some (.int x2), some (.int x3), some (.int v94), some (.int v83), some (.int (x6 + (1 : Int32))), none]) ⟨Or.inr rfl, Or.inr rfl, Or.inr rfl, Or.inr rfl, Or.inr rfl, Or.inr rfl, Or.inr rfl, Or.inl rfl, trivial⟩ ?_
          exact ih v94 v83 (x6 + (1 : Int32)) _ hf
        · rw [if_neg c69] at hf
          refine ev_goto (tg := 97) i_X10_actOf_72 (by decide) ?_
          refine ev_iinc (y := (x6 + (1 : Int32))) i_X10_actOf_97 rfl rfl (by decide) ?_
          refine ev_goto (tg := 9) i_X10_actOf_100 (by decide) ?_
          refine ev_sub (lc2 := [some (.ref a0), some (.int x1), some (.int x2), some (.int x3), some (.int x4), some (.int x5), some (.int (x6 + (1 : Int32))), none]) ⟨Or.inr rfl, Or.inr rfl, Or.inr rfl, Or.inr rfl, Or.inr rfl, Or.inr rfl, Or.inr rfl, Or.inl rfl, trivial⟩ ?_
          exact ih x4 x5 (x6 + (1 : Int32)) _ hf
def f_X10_actOf (h : MH) (a0 : Nat) (x1 : Int32) (x2 : Int32) (x3 : Int32) : Option Int32 := gK h a0 10 (f_X10_actOf_L9 (fun x4e103 => some x4e103) h a0 x1 x2 x3 fuel (4 : Int32) (-1 : Int32) (0 : Int32))
set_option maxRecDepth 20000 in
theorem e_X10_actOf {G : GG} {h : MH} {a0 : Nat} {x1 : Int32} {x2 : Int32} {x3 : Int32} {r : Int32} (hf : f_X10_actOf h a0 x1 x2 x3 = some r) : Ev G 1 M_X10_actOf 0 (ent M_X10_actOf [.ref a0, .int x1, .int x2, .int x3]) [] h (some (.int r)) h := by
  unfold f_X10_actOf at hf
  show Ev G 1 M_X10_actOf 0 [some (.ref a0), some (.int x1), some (.int x2), some (.int x3), none, none, none, none] [] h (some (.int r)) h
  obtain ⟨-, hf⟩ := gK_of hf
  refine ev_iconst i_X10_actOf_0 lt_i_4 ?_
  refine ev_istore i_X10_actOf_1 (by decide) ?_
  refine ev_iconst i_X10_actOf_3 lt_i_m1 ?_
  refine ev_istore i_X10_actOf_4 (by decide) ?_
  refine ev_iconst i_X10_actOf_6 lt_i_0 ?_
  refine ev_istore i_X10_actOf_7 (by decide) ?_
  exact l_X10_actOf_9 (fun x4e103 r hf => by
    refine ev_iload i_X10_actOf_103 rfl ?_
    cases hf
    exact ev_iiret i_X10_actOf_105 rfl) fuel (4 : Int32) (-1 : Int32) (0 : Int32) _ hf
def f_X10_goes (h : MH) (a0 : Nat) (x1 : Int32) (x2 : Int32) (x3 : Int32) : Option Int32 := gK h a0 10 ((f_X10_actOf h a0 x2 x1 x3).bind fun v4 => (if v4 = (4 : Int32) then (some (110 : Int32)) else ((gR h a0 10 3).bind fun b27 => (aI h b27 (((4 : Int32) * x1) + v4)).bind fun v32 => (if v32 = 0 then (some (111 : Int32)) else ((gR h a0 10 3).bind fun b42 => (aI h b42 (((4 : Int32) * x1) + v4)).bind fun v47 => (if v47 = (2 : Int32) then ((gR h a0 10 4).bind fun b55 => (aI h b55 (((4 : Int32) * x1) + v4)).bind fun v60 => some ((100 : Int32) + v60)) else ((gR h a0 10 4).bind fun b66 => (aI h b66 (((4 : Int32) * x1) + v4)).bind fun v71 => some (v71 / (4 : Int32)))))))))
set_option maxRecDepth 20000 in
theorem e_X10_goes {G : GG} {h : MH} {a0 : Nat} {x1 : Int32} {x2 : Int32} {x3 : Int32} {r : Int32} (hf : f_X10_goes h a0 x1 x2 x3 = some r) : Ev G 2 M_X10_goes 0 (ent M_X10_goes [.ref a0, .int x1, .int x2, .int x3]) [] h (some (.int r)) h := by
  unfold f_X10_goes at hf
  show Ev G 2 M_X10_goes 0 [some (.ref a0), some (.int x1), some (.int x2), some (.int x3), none, none] [] h (some (.int r)) h
  obtain ⟨-, hf⟩ := gK_of hf
  refine ev_aload_n i_X10_goes_0 rfl ?_
  refine ev_iload_n i_X10_goes_1 rfl ?_
  refine ev_iload_n i_X10_goes_2 rfl ?_
  refine ev_iload_n i_X10_goes_3 rfl ?_
  obtain ⟨v4, e4, hf⟩ := ob hf
  refine ev_cV_i i_X10_goes_4 lk_X10_goes_119 [.int x2, .int x1, .int x3] rfl rfl (by decide) (gK_of e4).1.1 (gK_of e4).1.2 (Nat.le_of_ble_eq_true rfl) (by decide) (e_X10_actOf e4) ?_
  refine ev_istore i_X10_goes_7 (by decide) ?_
  refine ev_iload i_X10_goes_9 rfl ?_
  refine ev_iconst i_X10_goes_11 lt_i_4 ?_
  refine ev_icmp_ne (tg := 18) i_X10_goes_12 (by decide) (fun c12 => ?_) (fun c12 => ?_)
  · rw [if_neg c12] at hf
    refine ev_iconst i_X10_goes_18 lt_i_4 ?_
    refine ev_iload_n i_X10_goes_19 rfl ?_
    refine ev_imul i_X10_goes_20 ?_
    refine ev_iload i_X10_goes_21 rfl ?_
    refine ev_iadd i_X10_goes_23 ?_
    refine ev_istore i_X10_goes_24 (by decide) ?_
    refine ev_aload_n i_X10_goes_26 rfl ?_
    obtain ⟨b27, e27, hf⟩ := ob hf
    refine ev_gR i_X10_goes_27 fl_X10_7 rfl e27 ?_
    refine ev_iload i_X10_goes_30 rfl ?_
    obtain ⟨v32, e32, hf⟩ := ob hf
    refine ev_aI i_X10_goes_32 e32 ?_
    refine ev_if_ne (tg := 41) i_X10_goes_33 (by decide) (fun c33 => ?_) (fun c33 => ?_)
    · rw [if_neg c33] at hf
      refine ev_aload_n i_X10_goes_41 rfl ?_
      obtain ⟨b42, e42, hf⟩ := ob hf
      refine ev_gR i_X10_goes_42 fl_X10_7 rfl e42 ?_
      refine ev_iload i_X10_goes_45 rfl ?_
      obtain ⟨v47, e47, hf⟩ := ob hf
      refine ev_aI i_X10_goes_47 e47 ?_
      refine ev_iconst i_X10_goes_48 lt_i_2 ?_
      refine ev_icmp_ne (tg := 65) i_X10_goes_49 (by decide) (fun c49 => ?_) (fun c49 => ?_)
      · rw [if_neg c49] at hf
        refine ev_aload_n i_X10_goes_65 rfl ?_
        obtain ⟨b66, e66, hf⟩ := ob hf
        refine ev_gR i_X10_goes_66 fl_X10_13 rfl e66 ?_
        refine ev_iload i_X10_goes_69 rfl ?_
        obtain ⟨v71, e71, hf⟩ := ob hf
        refine ev_aI i_X10_goes_71 e71 ?_
        refine ev_iconst i_X10_goes_72 lt_i_4 ?_
        refine ev_idiv i_X10_goes_73 (by decide) ?_
        cases hf
        exact ev_iiret i_X10_goes_74 rfl
      · rw [if_pos c49] at hf
        refine ev_bipush i_X10_goes_52 lt_b_100 ?_
        refine ev_aload_n i_X10_goes_54 rfl ?_
        obtain ⟨b55, e55, hf⟩ := ob hf
        refine ev_gR i_X10_goes_55 fl_X10_13 rfl e55 ?_
        refine ev_iload i_X10_goes_58 rfl ?_
        obtain ⟨v60, e60, hf⟩ := ob hf
        refine ev_aI i_X10_goes_60 e60 ?_
        refine ev_iadd i_X10_goes_61 ?_
        refine ev_goto (tg := 74) i_X10_goes_62 (by decide) ?_
        cases hf
        exact ev_iiret i_X10_goes_74 rfl
    · rw [if_pos c33] at hf
      refine ev_bipush i_X10_goes_36 lt_b_111 ?_
      refine ev_goto (tg := 74) i_X10_goes_38 (by decide) ?_
      cases hf
      exact ev_iiret i_X10_goes_74 rfl
  · rw [if_pos c12] at hf
    refine ev_bipush i_X10_goes_15 lt_b_110 ?_
    cases hf
    exact ev_iiret i_X10_goes_17 rfl
def f_X10_walks_L23 (k122 : MH → Option MH) (a0 : Nat) (x1 : Int32) (x3 : Int32) : Nat → MH → Int32 → Int32 → Option MH
  | 0, _, _, _ => none
  | n + 1, h, x4, x5 => (gI h a0 10 14).bind fun v24 => (if v24 = (-1 : Int32) then ((gR h a0 10 9).bind fun b32 => (gI h a0 10 13).bind fun v36 => (sI h b32 v36 x4).bind fun h41 => (gI h41 a0 10 13).bind fun v44 => (pI h41 a0 10 13 (v44 + (1 : Int32))).bind fun h49 => (f_X10_goes h49 a0 x4 ((x1 >>> (x4 &&& 31)) &&& (1 : Int32)) x3).bind fun v71 => (if v71 < (100 : Int32) then ((if (((x5 ||| ((1 : Int32) <<< (x4 &&& 31))) >>> (v71 &&& 31)) &&& (1 : Int32)) = (1 : Int32) then ((pI h49 a0 10 14 (12 : Int32)).bind fun h109 => f_X10_walks_L23 k122 a0 x1 x3 n h109 x4 (x5 ||| ((1 : Int32) <<< (x4 &&& 31)))) else (f_X10_walks_L23 k122 a0 x1 x3 n h49 v71 (x5 ||| ((1 : Int32) <<< (x4 &&& 31)))))) else ((pI h49 a0 10 14 (v71 - (100 : Int32))).bind fun h89 => f_X10_walks_L23 k122 a0 x1 x3 n h89 x4 (x5 ||| ((1 : Int32) <<< (x4 &&& 31)))))) else (k122 h))
set_option maxRecDepth 20000 in
theorem l_X10_walks_23 {G : GG} {k122 : MH → Option MH} {a0 : Nat} {x1 : Int32} {x3 : Int32} (hk122 : ∀ (hz : MH) (r : MH), k122 hz = some r → Ev G 3 M_X10_walks 122 [none, none, none, none, none, none, none] [] hz none r) : ∀ (n : Nat) (h : MH) (x4 : Int32) (x5 : Int32) (r : MH), f_X10_walks_L23 k122 a0 x1 x3 n h x4 x5 = some r → Ev G 3 M_X10_walks 23 [some (.ref a0), some (.int x1), none, some (.int x3), some (.int x4), some (.int x5), none] [] h none r := by
  intro n
  induction n with
  | zero => intro h x4 x5 r hf; rw [f_X10_walks_L23] at hf; cases hf
  | succ n ih =>
    intro h x4 x5 r hf
    rw [f_X10_walks_L23] at hf
    refine ev_aload_n i_X10_walks_23 rfl ?_
    obtain ⟨v24, e24, hf⟩ := ob hf
    refine ev_gI i_X10_walks_24 fl_X10_125 rfl e24 ?_
    refine ev_iconst i_X10_walks_27 lt_i_m1 ?_
    refine ev_icmp_ne (tg := 122) i_X10_walks_28 (by decide) (fun c28 => ?_) (fun c28 => ?_)
    · rw [if_neg c28] at hf
      refine ev_sub (lc2 := [none, none, none, none, none, none, none]) ⟨Or.inl rfl, Or.inl rfl, Or.inr rfl, Or.inl rfl, Or.inl rfl, Or.inl rfl, Or.inr rfl, trivial⟩ ?_
      exact hk122 h _ hf
    · rw [if_pos c28] at hf
      refine ev_aload_n i_X10_walks_31 rfl ?_
      obtain ⟨b32, e32, hf⟩ := ob hf
      refine ev_gR i_X10_walks_32 fl_X10_28 rfl e32 ?_
      refine ev_aload_n i_X10_walks_35 rfl ?_
      obtain ⟨v36, e36, hf⟩ := ob hf
      refine ev_gI i_X10_walks_36 fl_X10_122 rfl e36 ?_
      refine ev_iload i_X10_walks_39 rfl ?_
      obtain ⟨h41, e41, hf⟩ := ob hf
      refine ev_sI i_X10_walks_41 e41 ?_
      refine ev_aload_n i_X10_walks_42 rfl ?_
      refine ev_dup i_X10_walks_43 ?_
      obtain ⟨v44, e44, hf⟩ := ob hf
      refine ev_gI i_X10_walks_44 fl_X10_122 rfl e44 ?_
      refine ev_iconst i_X10_walks_47 lt_i_1 ?_
      refine ev_iadd i_X10_walks_48 ?_
      obtain ⟨h49, e49, hf⟩ := ob hf
      refine ev_pI i_X10_walks_49 fp_X10_walks_122 rfl e49 ?_
      refine ev_iload i_X10_walks_52 rfl ?_
      refine ev_iconst i_X10_walks_54 lt_i_1 ?_
      refine ev_iload i_X10_walks_55 rfl ?_
      refine ev_ishl i_X10_walks_57 ?_
      refine ev_ior i_X10_walks_58 ?_
      refine ev_istore i_X10_walks_59 (by decide) ?_
      refine ev_aload_n i_X10_walks_61 rfl ?_
      refine ev_iload i_X10_walks_62 rfl ?_
      refine ev_iload_n i_X10_walks_64 rfl ?_
      refine ev_iload i_X10_walks_65 rfl ?_
      refine ev_ishr i_X10_walks_67 ?_
      refine ev_iconst i_X10_walks_68 lt_i_1 ?_
      refine ev_iand i_X10_walks_69 ?_
      refine ev_iload_n i_X10_walks_70 rfl ?_
      obtain ⟨v71, e71, hf⟩ := ob hf
      refine ev_cV_i i_X10_walks_71 lk_X10_walks_128 [.int x4, .int ((x1 >>> (x4 &&& 31)) &&& (1 : Int32)), .int x3] rfl rfl (by decide) (gK_of e71).1.1 (gK_of e71).1.2 (Nat.le_of_ble_eq_true rfl) (by decide) (e_X10_goes e71) ?_
      refine ev_istore i_X10_walks_74 (by decide) ?_
      refine ev_iload i_X10_walks_76 rfl ?_
      refine ev_bipush i_X10_walks_78 lt_b_100 ?_
      refine ev_icmp_lt (tg := 95) i_X10_walks_80 (by decide) (fun c80 => ?_) (fun c80 => ?_)
      · rw [if_pos c80] at hf
        refine ev_iload i_X10_walks_95 rfl ?_
        refine ev_iload i_X10_walks_97 rfl ?_
        refine ev_ishr i_X10_walks_99 ?_
        refine ev_iconst i_X10_walks_100 lt_i_1 ?_
        refine ev_iand i_X10_walks_101 ?_
        refine ev_iconst i_X10_walks_102 lt_i_1 ?_
        refine ev_icmp_ne (tg := 115) i_X10_walks_103 (by decide) (fun c103 => ?_) (fun c103 => ?_)
        · rw [if_neg c103] at hf
          refine ev_iload i_X10_walks_115 rfl ?_
          refine ev_istore i_X10_walks_117 (by decide) ?_
          refine ev_goto (tg := 23) i_X10_walks_119 (by decide) ?_
          refine ev_sub (lc2 := [some (.ref a0), some (.int x1), none, some (.int x3), some (.int v71), some (.int (x5 ||| ((1 : Int32) <<< (x4 &&& 31)))), none]) ⟨Or.inr rfl, Or.inr rfl, Or.inr rfl, Or.inr rfl, Or.inr rfl, Or.inr rfl, Or.inl rfl, trivial⟩ ?_
          exact ih h49 v71 (x5 ||| ((1 : Int32) <<< (x4 &&& 31))) _ hf
        · rw [if_pos c103] at hf
          refine ev_aload_n i_X10_walks_106 rfl ?_
          refine ev_bipush i_X10_walks_107 lt_b_12 ?_
          obtain ⟨h109, e109, hf⟩ := ob hf
          refine ev_pI i_X10_walks_109 fp_X10_walks_125 rfl e109 ?_
          refine ev_goto (tg := 119) i_X10_walks_112 (by decide) ?_
          refine ev_goto (tg := 23) i_X10_walks_119 (by decide) ?_
          refine ev_sub (lc2 := [some (.ref a0), some (.int x1), none, some (.int x3), some (.int x4), some (.int (x5 ||| ((1 : Int32) <<< (x4 &&& 31)))), none]) ⟨Or.inr rfl, Or.inr rfl, Or.inr rfl, Or.inr rfl, Or.inr rfl, Or.inr rfl, Or.inl rfl, trivial⟩ ?_
          exact ih h109 x4 (x5 ||| ((1 : Int32) <<< (x4 &&& 31))) _ hf
      · rw [if_neg c80] at hf
        refine ev_aload_n i_X10_walks_83 rfl ?_
        refine ev_iload i_X10_walks_84 rfl ?_
        refine ev_bipush i_X10_walks_86 lt_b_100 ?_
        refine ev_isub i_X10_walks_88 ?_
        obtain ⟨h89, e89, hf⟩ := ob hf
        refine ev_pI i_X10_walks_89 fp_X10_walks_125 rfl e89 ?_
        refine ev_goto (tg := 119) i_X10_walks_92 (by decide) ?_
        refine ev_goto (tg := 23) i_X10_walks_119 (by decide) ?_
        refine ev_sub (lc2 := [some (.ref a0), some (.int x1), none, some (.int x3), some (.int x4), some (.int (x5 ||| ((1 : Int32) <<< (x4 &&& 31)))), none]) ⟨Or.inr rfl, Or.inr rfl, Or.inr rfl, Or.inr rfl, Or.inr rfl, Or.inr rfl, Or.inl rfl, trivial⟩ ?_
        exact ih h89 x4 (x5 ||| ((1 : Int32) <<< (x4 &&& 31))) _ hf
def f_X10_walks (h : MH) (a0 : Nat) (x1 : Int32) (x2 : Int32) (x3 : Int32) : Option MH := gK h a0 10 ((gR h a0 10 5).bind fun b1 => (aI h b1 x2).bind fun v5 => (pI h a0 10 13 (0 : Int32)).bind fun h15 => (pI h15 a0 10 14 (-1 : Int32)).bind fun h20 => f_X10_walks_L23 (fun he122 => some he122) a0 x1 x3 fuel h20 (v5 / (4 : Int32)) (0 : Int32))
set_option maxRecDepth 20000 in
theorem e_X10_walks {G : GG} {h : MH} {a0 : Nat} {x1 : Int32} {x2 : Int32} {x3 : Int32} {r : MH} (hf : f_X10_walks h a0 x1 x2 x3 = some r) : Ev G 3 M_X10_walks 0 (ent M_X10_walks [.ref a0, .int x1, .int x2, .int x3]) [] h none r := by
  unfold f_X10_walks at hf
  show Ev G 3 M_X10_walks 0 [some (.ref a0), some (.int x1), some (.int x2), some (.int x3), none, none, none] [] h none r
  obtain ⟨-, hf⟩ := gK_of hf
  refine ev_aload_n i_X10_walks_0 rfl ?_
  obtain ⟨b1, e1, hf⟩ := ob hf
  refine ev_gR i_X10_walks_1 fl_X10_16 rfl e1 ?_
  refine ev_iload_n i_X10_walks_4 rfl ?_
  obtain ⟨v5, e5, hf⟩ := ob hf
  refine ev_aI i_X10_walks_5 e5 ?_
  refine ev_iconst i_X10_walks_6 lt_i_4 ?_
  refine ev_idiv i_X10_walks_7 (by decide) ?_
  refine ev_istore i_X10_walks_8 (by decide) ?_
  refine ev_iconst i_X10_walks_10 lt_i_0 ?_
  refine ev_istore i_X10_walks_11 (by decide) ?_
  refine ev_aload_n i_X10_walks_13 rfl ?_
  refine ev_iconst i_X10_walks_14 lt_i_0 ?_
  obtain ⟨h15, e15, hf⟩ := ob hf
  refine ev_pI i_X10_walks_15 fp_X10_walks_122 rfl e15 ?_
  refine ev_aload_n i_X10_walks_18 rfl ?_
  refine ev_iconst i_X10_walks_19 lt_i_m1 ?_
  obtain ⟨h20, e20, hf⟩ := ob hf
  refine ev_pI i_X10_walks_20 fp_X10_walks_125 rfl e20 ?_
  refine ev_sub (lc2 := [some (.ref a0), some (.int x1), none, some (.int x3), some (.int (v5 / (4 : Int32))), some (.int (0 : Int32)), none]) ⟨Or.inr rfl, Or.inr rfl, Or.inl rfl, Or.inr rfl, Or.inr rfl, Or.inr rfl, Or.inr rfl, trivial⟩ ?_
  exact l_X10_walks_23 (fun he122 r hf => by
    cases hf
    exact ev_vret i_X10_walks_122 rfl) fuel h20 (v5 / (4 : Int32)) (0 : Int32) _ hf
def f_X10_all (h : MH) (a0 : Nat) : Option Int32 := gK h a0 10 ((gI h a0 10 0).bind fun v2 => some (((1 : Int32) <<< (v2 &&& 31)) - (1 : Int32)))
set_option maxRecDepth 20000 in
theorem e_X10_all {G : GG} {h : MH} {a0 : Nat} {r : Int32} (hf : f_X10_all h a0 = some r) : Ev G 0 M_X10_all 0 (ent M_X10_all [.ref a0]) [] h (some (.int r)) h := by
  unfold f_X10_all at hf
  show Ev G 0 M_X10_all 0 [some (.ref a0)] [] h (some (.int r)) h
  obtain ⟨-, hf⟩ := gK_of hf
  refine ev_iconst i_X10_all_0 lt_i_1 ?_
  refine ev_aload_n i_X10_all_1 rfl ?_
  obtain ⟨v2, e2, hf⟩ := ob hf
  refine ev_gI i_X10_all_2 fl_X10_82 rfl e2 ?_
  refine ev_ishl i_X10_all_5 ?_
  refine ev_iconst i_X10_all_6 lt_i_1 ?_
  refine ev_isub i_X10_all_7 ?_
  cases hf
  exact ev_iiret i_X10_all_8 rfl
def f_X10_isMixture (h : MH) (a0 : Nat) (x1 : Int32) : Option Int32 := gK h a0 10 ((f_X10_all h a0).bind fun v3 => (f_X10_isIn h x1 (0 : Int32) v3).bind fun v6 => zR v6)
set_option maxRecDepth 20000 in
theorem e_X10_isMixture {G : GG} {h : MH} {a0 : Nat} {x1 : Int32} {r : Int32} (hf : f_X10_isMixture h a0 x1 = some r) : Ev G 1 M_X10_isMixture 0 (ent M_X10_isMixture [.ref a0, .int x1]) [] h (some (.int r)) h := by
  unfold f_X10_isMixture at hf
  show Ev G 1 M_X10_isMixture 0 [some (.ref a0), some (.int x1)] [] h (some (.int r)) h
  obtain ⟨-, hf⟩ := gK_of hf
  refine ev_iload_n i_X10_isMixture_0 rfl ?_
  refine ev_iconst i_X10_isMixture_1 lt_i_0 ?_
  refine ev_aload_n i_X10_isMixture_2 rfl ?_
  obtain ⟨v3, e3, hf⟩ := ob hf
  refine ev_cV_i i_X10_isMixture_3 lk_X10_isMixture_131 [] rfl rfl (by decide) (gK_of e3).1.1 (gK_of e3).1.2 (Nat.le_of_ble_eq_true rfl) (by decide) (e_X10_all e3) ?_
  obtain ⟨v6, e6, hf⟩ := ob hf
  refine ev_cS_i i_X10_isMixture_6 lk_X10_isMixture_94 [.int x1, .int (0 : Int32), .int v3] rfl rfl (by decide) (Nat.le_of_ble_eq_true rfl) (by decide) (e_X10_isIn e6) ?_
  obtain ⟨hz, rfl⟩ := zR_of hf
  exact ev_zret i_X10_isMixture_9 rfl hz
def f_X10_way_L60 (k89 : MH → Option (Int32 × MH)) (a0 : Nat) : Nat → MH → Int32 → Option (Int32 × MH)
  | 0, _, _ => none
  | n + 1, h, x4 => (gI h a0 10 13).bind fun v63 => (if v63 ≤ x4 then (k89 h) else ((gR h a0 10 12).bind fun b70 => (gR h a0 10 9).bind fun b76 => (aI h b76 x4).bind fun v81 => (sI h b70 x4 v81).bind fun h82 => f_X10_way_L60 k89 a0 n h82 (x4 + (1 : Int32))))
set_option maxRecDepth 20000 in
theorem l_X10_way_60 {G : GG} {k89 : MH → Option (Int32 × MH)} {a0 : Nat} (hk89 : ∀ (hz : MH) (r : (Int32 × MH)), k89 hz = some r → Ev G 4 M_X10_way 89 [some (.ref a0), none, none, none, none] [] hz (some (.int r.1)) r.2) : ∀ (n : Nat) (h : MH) (x4 : Int32) (r : (Int32 × MH)), f_X10_way_L60 k89 a0 n h x4 = some r → Ev G 4 M_X10_way 60 [some (.ref a0), none, none, none, some (.int x4)] [] h (some (.int r.1)) r.2 := by
  intro n
  induction n with
  | zero => intro h x4 r hf; rw [f_X10_way_L60] at hf; cases hf
  | succ n ih =>
    intro h x4 r hf
    rw [f_X10_way_L60] at hf
    refine ev_iload i_X10_way_60 rfl ?_
    refine ev_aload_n i_X10_way_62 rfl ?_
    obtain ⟨v63, e63, hf⟩ := ob hf
    refine ev_gI i_X10_way_63 fl_X10_122 rfl e63 ?_
    refine ev_icmp_ge (tg := 89) i_X10_way_66 (by decide) (fun c66 => ?_) (fun c66 => ?_)
    · rw [if_pos c66] at hf
      refine ev_sub (lc2 := [some (.ref a0), none, none, none, none]) ⟨Or.inr rfl, Or.inr rfl, Or.inr rfl, Or.inr rfl, Or.inl rfl, trivial⟩ ?_
      exact hk89 h _ hf
    · rw [if_neg c66] at hf
      refine ev_aload_n i_X10_way_69 rfl ?_
      obtain ⟨b70, e70, hf⟩ := ob hf
      refine ev_gR i_X10_way_70 fl_X10_37 rfl e70 ?_
      refine ev_iload i_X10_way_73 rfl ?_
      refine ev_aload_n i_X10_way_75 rfl ?_
      obtain ⟨b76, e76, hf⟩ := ob hf
      refine ev_gR i_X10_way_76 fl_X10_28 rfl e76 ?_
      refine ev_iload i_X10_way_79 rfl ?_
      obtain ⟨v81, e81, hf⟩ := ob hf
      refine ev_aI i_X10_way_81 e81 ?_
      obtain ⟨h82, e82, hf⟩ := ob hf
      refine ev_sI i_X10_way_82 e82 ?_
      refine ev_iinc (y := (x4 + (1 : Int32))) i_X10_way_83 rfl rfl (by decide) ?_
      refine ev_goto (tg := 60) i_X10_way_86 (by decide) ?_
      exact ih h82 (x4 + (1 : Int32)) _ hf
def f_X10_way (h : MH) (a0 : Nat) (x1 : Int32) (x2 : Int32) (x3 : Int32) : Option (Int32 × MH) := gK h a0 10 ((f_X10_isMixture h a0 x1).bind fun v2 => (if v2 = 0 then (some ((-1 : Int32), h)) else ((gI h a0 10 1).bind fun v11 => (f_X10_isIn h x2 (0 : Int32) (v11 - (1 : Int32))).bind fun v16 => (if v16 = 0 then (some ((-1 : Int32), h)) else ((f_X10_isIn h x3 (0 : Int32) (15 : Int32)).bind fun v26 => (if v26 = 0 then (some ((-1 : Int32), h)) else ((f_X10_walks h a0 x1 x2 x3).bind fun h38 => (gI h38 a0 10 13).bind fun v43 => (pI h38 a0 10 19 v43).bind fun h46 => (gI h46 a0 10 14).bind fun v51 => (pI h46 a0 10 20 v51).bind fun h54 => f_X10_way_L60 (fun he89 => (gI he89 a0 10 13).bind fun v90 => some (v90, he89)) a0 fuel h54 (0 : Int32))))))))
set_option maxRecDepth 20000 in
theorem e_X10_way {G : GG} {h : MH} {a0 : Nat} {x1 : Int32} {x2 : Int32} {x3 : Int32} {r : (Int32 × MH)} (hf : f_X10_way h a0 x1 x2 x3 = some r) : Ev G 4 M_X10_way 0 (ent M_X10_way [.ref a0, .int x1, .int x2, .int x3]) [] h (some (.int r.1)) r.2 := by
  unfold f_X10_way at hf
  show Ev G 4 M_X10_way 0 [some (.ref a0), some (.int x1), some (.int x2), some (.int x3), none] [] h (some (.int r.1)) r.2
  obtain ⟨-, hf⟩ := gK_of hf
  refine ev_aload_n i_X10_way_0 rfl ?_
  refine ev_iload_n i_X10_way_1 rfl ?_
  obtain ⟨v2, e2, hf⟩ := ob hf
  refine ev_cV_i i_X10_way_2 lk_X10_way_135 [.int x1] rfl rfl (by decide) (gK_of e2).1.1 (gK_of e2).1.2 (Nat.le_of_ble_eq_true rfl) (by decide) (e_X10_isMixture e2) ?_
  refine ev_if_eq (tg := 32) i_X10_way_5 (by decide) (fun c5 => ?_) (fun c5 => ?_)
  · rw [if_pos c5] at hf
    refine ev_iconst i_X10_way_32 lt_i_m1 ?_
    cases hf
    exact ev_iiret i_X10_way_33 rfl
  · rw [if_neg c5] at hf
    refine ev_iload_n i_X10_way_8 rfl ?_
    refine ev_iconst i_X10_way_9 lt_i_0 ?_
    refine ev_aload_n i_X10_way_10 rfl ?_
    obtain ⟨v11, e11, hf⟩ := ob hf
    refine ev_gI i_X10_way_11 fl_X10_85 rfl e11 ?_
    refine ev_iconst i_X10_way_14 lt_i_1 ?_
    refine ev_isub i_X10_way_15 ?_
    obtain ⟨v16, e16, hf⟩ := ob hf
    refine ev_cS_i i_X10_way_16 lk_X10_way_94 [.int x2, .int (0 : Int32), .int (v11 - (1 : Int32))] rfl rfl (by decide) (Nat.le_of_ble_eq_true rfl) (by decide) (e_X10_isIn e16) ?_
    refine ev_if_eq (tg := 32) i_X10_way_19 (by decide) (fun c19 => ?_) (fun c19 => ?_)
    · rw [if_pos c19] at hf
      refine ev_iconst i_X10_way_32 lt_i_m1 ?_
      cases hf
      exact ev_iiret i_X10_way_33 rfl
    · rw [if_neg c19] at hf
      refine ev_iload_n i_X10_way_22 rfl ?_
      refine ev_iconst i_X10_way_23 lt_i_0 ?_
      refine ev_bipush i_X10_way_24 lt_b_15 ?_
      obtain ⟨v26, e26, hf⟩ := ob hf
      refine ev_cS_i i_X10_way_26 lk_X10_way_94 [.int x3, .int (0 : Int32), .int (15 : Int32)] rfl rfl (by decide) (Nat.le_of_ble_eq_true rfl) (by decide) (e_X10_isIn e26) ?_
      refine ev_if_ne (tg := 34) i_X10_way_29 (by decide) (fun c29 => ?_) (fun c29 => ?_)
      · rw [if_neg c29] at hf
        refine ev_aload_n i_X10_way_34 rfl ?_
        refine ev_iload_n i_X10_way_35 rfl ?_
        refine ev_iload_n i_X10_way_36 rfl ?_
        refine ev_iload_n i_X10_way_37 rfl ?_
        obtain ⟨h38, e38, hf⟩ := ob hf
        refine ev_cV_v i_X10_way_38 lk_X10_way_138 [.int x1, .int x2, .int x3] rfl rfl (by decide) (gK_of e38).1.1 (gK_of e38).1.2 (Nat.le_of_ble_eq_true rfl) (by decide) (e_X10_walks e38) ?_
        refine ev_aload_n i_X10_way_41 rfl ?_
        refine ev_aload_n i_X10_way_42 rfl ?_
        obtain ⟨v43, e43, hf⟩ := ob hf
        refine ev_gI i_X10_way_43 fl_X10_122 rfl e43 ?_
        obtain ⟨h46, e46, hf⟩ := ob hf
        refine ev_pI i_X10_way_46 fp_X10_way_142 rfl e46 ?_
        refine ev_aload_n i_X10_way_49 rfl ?_
        refine ev_aload_n i_X10_way_50 rfl ?_
        obtain ⟨v51, e51, hf⟩ := ob hf
        refine ev_gI i_X10_way_51 fl_X10_125 rfl e51 ?_
        obtain ⟨h54, e54, hf⟩ := ob hf
        refine ev_pI i_X10_way_54 fp_X10_way_40 rfl e54 ?_
        refine ev_iconst i_X10_way_57 lt_i_0 ?_
        refine ev_istore i_X10_way_58 (by decide) ?_
        refine ev_sub (lc2 := [some (.ref a0), none, none, none, some (.int (0 : Int32))]) ⟨Or.inr rfl, Or.inl rfl, Or.inl rfl, Or.inl rfl, Or.inr rfl, trivial⟩ ?_
        exact l_X10_way_60 (fun he89 r hf => by
          refine ev_aload_n i_X10_way_89 rfl ?_
          obtain ⟨v90, e90, hf⟩ := ob hf
          refine ev_gI i_X10_way_90 fl_X10_122 rfl e90 ?_
          cases hf
          exact ev_iiret i_X10_way_93 rfl) fuel h54 (0 : Int32) _ hf
      · rw [if_pos c29] at hf
        refine ev_iconst i_X10_way_32 lt_i_m1 ?_
        cases hf
        exact ev_iiret i_X10_way_33 rfl
def f_X10_on (h : MH) (a0 : Nat) (x1 : Int32) : Option Int32 := gK h a0 10 ((if x1 = (-1 : Int32) then ((gI h a0 10 20).bind fun v6 => some v6) else ((gI h a0 10 19).bind fun v15 => (f_X10_isIn h x1 (0 : Int32) (v15 - (1 : Int32))).bind fun v20 => (if v20 = 0 then (some (-1 : Int32)) else ((gR h a0 10 12).bind fun b27 => (aI h b27 x1).bind fun v31 => some v31)))))
set_option maxRecDepth 20000 in
theorem e_X10_on {G : GG} {h : MH} {a0 : Nat} {x1 : Int32} {r : Int32} (hf : f_X10_on h a0 x1 = some r) : Ev G 1 M_X10_on 0 (ent M_X10_on [.ref a0, .int x1]) [] h (some (.int r)) h := by
  unfold f_X10_on at hf
  show Ev G 1 M_X10_on 0 [some (.ref a0), some (.int x1)] [] h (some (.int r)) h
  obtain ⟨-, hf⟩ := gK_of hf
  refine ev_iload_n i_X10_on_0 rfl ?_
  refine ev_iconst i_X10_on_1 lt_i_m1 ?_
  refine ev_icmp_ne (tg := 12) i_X10_on_2 (by decide) (fun c2 => ?_) (fun c2 => ?_)
  · rw [if_neg c2] at hf
    refine ev_iload_n i_X10_on_12 rfl ?_
    refine ev_iconst i_X10_on_13 lt_i_0 ?_
    refine ev_aload_n i_X10_on_14 rfl ?_
    obtain ⟨v15, e15, hf⟩ := ob hf
    refine ev_gI i_X10_on_15 fl_X10_142 rfl e15 ?_
    refine ev_iconst i_X10_on_18 lt_i_1 ?_
    refine ev_isub i_X10_on_19 ?_
    obtain ⟨v20, e20, hf⟩ := ob hf
    refine ev_cS_i i_X10_on_20 lk_X10_on_94 [.int x1, .int (0 : Int32), .int (v15 - (1 : Int32))] rfl rfl (by decide) (Nat.le_of_ble_eq_true rfl) (by decide) (e_X10_isIn e20) ?_
    refine ev_if_eq (tg := 35) i_X10_on_23 (by decide) (fun c23 => ?_) (fun c23 => ?_)
    · rw [if_pos c23] at hf
      refine ev_iconst i_X10_on_35 lt_i_m1 ?_
      cases hf
      exact ev_iiret i_X10_on_36 rfl
    · rw [if_neg c23] at hf
      refine ev_aload_n i_X10_on_26 rfl ?_
      obtain ⟨b27, e27, hf⟩ := ob hf
      refine ev_gR i_X10_on_27 fl_X10_37 rfl e27 ?_
      refine ev_iload_n i_X10_on_30 rfl ?_
      obtain ⟨v31, e31, hf⟩ := ob hf
      refine ev_aI i_X10_on_31 e31 ?_
      refine ev_goto (tg := 36) i_X10_on_32 (by decide) ?_
      cases hf
      exact ev_iiret i_X10_on_36 rfl
  · rw [if_pos c2] at hf
    refine ev_aload_n i_X10_on_5 rfl ?_
    obtain ⟨v6, e6, hf⟩ := ob hf
    refine ev_gI i_X10_on_6 fl_X10_40 rfl e6 ?_
    refine ev_goto (tg := 36) i_X10_on_9 (by decide) ?_
    cases hf
    exact ev_iiret i_X10_on_36 rfl
def f_X10_isWhole_L17 (k43 : MH → Option (Int32 × MH)) (a0 : Nat) (x1 : Int32) (x2 : Int32) (x3 : Int32) (x4 : Int32) : Nat → MH → Int32 → Option (Int32 × MH)
  | 0, _, _ => none
  | n + 1, h, x6 => (if x3 ≤ x6 then (k43 h) else ((gR h a0 10 10).bind fun b24 => (gR h a0 10 9).bind fun b30 => (aI h b30 x6).bind fun v35 => (sI h b24 x6 v35).bind fun h36 => f_X10_isWhole_L17 k43 a0 x1 x2 x3 x4 n h36 (x6 + (1 : Int32))))
set_option maxRecDepth 20000 in
theorem l_X10_isWhole_17 {G : GG} {k43 : MH → Option (Int32 × MH)} {a0 : Nat} {x1 : Int32} {x2 : Int32} {x3 : Int32} {x4 : Int32} (hk43 : ∀ (hz : MH) (r : (Int32 × MH)), k43 hz = some r → Ev G 4 M_X10_isWhole 43 [some (.ref a0), some (.int x1), some (.int x2), some (.int x3), some (.int x4), none, none, none] [] hz (some (.int r.1)) r.2) : ∀ (n : Nat) (h : MH) (x6 : Int32) (r : (Int32 × MH)), f_X10_isWhole_L17 k43 a0 x1 x2 x3 x4 n h x6 = some r → Ev G 4 M_X10_isWhole 17 [some (.ref a0), some (.int x1), some (.int x2), some (.int x3), some (.int x4), none, some (.int x6), none] [] h (some (.int r.1)) r.2 := by
  intro n
  induction n with
  | zero => intro h x6 r hf; rw [f_X10_isWhole_L17] at hf; cases hf
  | succ n ih =>
    intro h x6 r hf
    rw [f_X10_isWhole_L17] at hf
    refine ev_iload i_X10_isWhole_17 rfl ?_
    refine ev_iload_n i_X10_isWhole_19 rfl ?_
    refine ev_icmp_ge (tg := 43) i_X10_isWhole_20 (by decide) (fun c20 => ?_) (fun c20 => ?_)
    · rw [if_pos c20] at hf
      refine ev_sub (lc2 := [some (.ref a0), some (.int x1), some (.int x2), some (.int x3), some (.int x4), none, none, none]) ⟨Or.inr rfl, Or.inr rfl, Or.inr rfl, Or.inr rfl, Or.inr rfl, Or.inr rfl, Or.inl rfl, Or.inr rfl, trivial⟩ ?_
      exact hk43 h _ hf
    · rw [if_neg c20] at hf
      refine ev_aload_n i_X10_isWhole_23 rfl ?_
      obtain ⟨b24, e24, hf⟩ := ob hf
      refine ev_gR i_X10_isWhole_24 fl_X10_31 rfl e24 ?_
      refine ev_iload i_X10_isWhole_27 rfl ?_
      refine ev_aload_n i_X10_isWhole_29 rfl ?_
      obtain ⟨b30, e30, hf⟩ := ob hf
      refine ev_gR i_X10_isWhole_30 fl_X10_28 rfl e30 ?_
      refine ev_iload i_X10_isWhole_33 rfl ?_
      obtain ⟨v35, e35, hf⟩ := ob hf
      refine ev_aI i_X10_isWhole_35 e35 ?_
      obtain ⟨h36, e36, hf⟩ := ob hf
      refine ev_sI i_X10_isWhole_36 e36 ?_
      refine ev_iinc (y := (x6 + (1 : Int32))) i_X10_isWhole_37 rfl rfl (by decide) ?_
      refine ev_goto (tg := 17) i_X10_isWhole_40 (by decide) ?_
      exact ih h36 (x6 + (1 : Int32)) _ hf
def f_X10_isWhole_L87 (k128 : Int32 → Option (Int32 × MH)) (h : MH) (a0 : Nat) (x1 : Int32) (x2 : Int32) (x3 : Int32) (x4 : Int32) : Nat → Int32 → Int32 → Option (Int32 × MH)
  | 0, _, _ => none
  | n + 1, x5, x6 => (if x3 ≤ x6 then (k128 x5) else ((if x5 = 0 then (k128 x5) else ((gR h a0 10 9).bind fun b99 => (aI h b99 x6).bind fun v104 => (gR h a0 10 10).bind fun b106 => (aI h b106 x6).bind fun v111 => (if v104 = v111 then (f_X10_isWhole_L87 k128 h a0 x1 x2 x3 x4 n (1 : Int32) (x6 + (1 : Int32))) else (f_X10_isWhole_L87 k128 h a0 x1 x2 x3 x4 n (0 : Int32) (x6 + (1 : Int32))))))))
set_option maxRecDepth 20000 in
theorem l_X10_isWhole_87 {G : GG} {k128 : Int32 → Option (Int32 × MH)} {h : MH} {a0 : Nat} {x1 : Int32} {x2 : Int32} {x3 : Int32} {x4 : Int32} (hk128 : ∀ (x5z : Int32) (r : (Int32 × MH)), k128 x5z = some r → Ev G 4 M_X10_isWhole 128 [some (.ref a0), some (.int x1), some (.int x2), some (.int x3), some (.int x4), some (.int x5z), none, none] [] h (some (.int r.1)) r.2) : ∀ (n : Nat) (x5 : Int32) (x6 : Int32) (r : (Int32 × MH)), f_X10_isWhole_L87 k128 h a0 x1 x2 x3 x4 n x5 x6 = some r → Ev G 4 M_X10_isWhole 87 [some (.ref a0), some (.int x1), some (.int x2), some (.int x3), some (.int x4), some (.int x5), some (.int x6), none] [] h (some (.int r.1)) r.2 := by
  intro n
  induction n with
  | zero => intro x5 x6 r hf; rw [f_X10_isWhole_L87] at hf; cases hf
  | succ n ih =>
    intro x5 x6 r hf
    rw [f_X10_isWhole_L87] at hf
    refine ev_iload i_X10_isWhole_87 rfl ?_
    refine ev_iload_n i_X10_isWhole_89 rfl ?_
    refine ev_icmp_ge (tg := 128) i_X10_isWhole_90 (by decide) (fun c90 => ?_) (fun c90 => ?_)
    · rw [if_pos c90] at hf
      refine ev_sub (lc2 := [some (.ref a0), some (.int x1), some (.int x2), some (.int x3), some (.int x4), some (.int x5), none, none]) ⟨Or.inr rfl, Or.inr rfl, Or.inr rfl, Or.inr rfl, Or.inr rfl, Or.inr rfl, Or.inl rfl, Or.inr rfl, trivial⟩ ?_
      exact hk128 x5 _ hf
    · rw [if_neg c90] at hf
      refine ev_iload i_X10_isWhole_93 rfl ?_
      refine ev_if_eq (tg := 128) i_X10_isWhole_95 (by decide) (fun c95 => ?_) (fun c95 => ?_)
      · rw [if_pos c95] at hf
        refine ev_sub (lc2 := [some (.ref a0), some (.int x1), some (.int x2), some (.int x3), some (.int x4), some (.int x5), none, none]) ⟨Or.inr rfl, Or.inr rfl, Or.inr rfl, Or.inr rfl, Or.inr rfl, Or.inr rfl, Or.inl rfl, Or.inr rfl, trivial⟩ ?_
        exact hk128 x5 _ hf
      · rw [if_neg c95] at hf
        refine ev_aload_n i_X10_isWhole_98 rfl ?_
        obtain ⟨b99, e99, hf⟩ := ob hf
        refine ev_gR i_X10_isWhole_99 fl_X10_28 rfl e99 ?_
        refine ev_iload i_X10_isWhole_102 rfl ?_
        obtain ⟨v104, e104, hf⟩ := ob hf
        refine ev_aI i_X10_isWhole_104 e104 ?_
        refine ev_aload_n i_X10_isWhole_105 rfl ?_
        obtain ⟨b106, e106, hf⟩ := ob hf
        refine ev_gR i_X10_isWhole_106 fl_X10_31 rfl e106 ?_
        refine ev_iload i_X10_isWhole_109 rfl ?_
        obtain ⟨v111, e111, hf⟩ := ob hf
        refine ev_aI i_X10_isWhole_111 e111 ?_
        refine ev_icmp_ne (tg := 119) i_X10_isWhole_112 (by decide) (fun c112 => ?_) (fun c112 => ?_)
        · rw [if_neg c112] at hf
          refine ev_iconst i_X10_isWhole_119 lt_i_0 ?_
          refine ev_istore i_X10_isWhole_120 (by decide) ?_
          refine ev_iinc (y := (x6 + (1 : Int32))) i_X10_isWhole_122 rfl rfl (by decide) ?_
          refine ev_goto (tg := 87) i_X10_isWhole_125 (by decide) ?_
          exact ih (0 : Int32) (x6 + (1 : Int32)) _ hf
        · rw [if_pos c112] at hf
          refine ev_iconst i_X10_isWhole_115 lt_i_1 ?_
          refine ev_goto (tg := 120) i_X10_isWhole_116 (by decide) ?_
          refine ev_istore i_X10_isWhole_120 (by decide) ?_
          refine ev_iinc (y := (x6 + (1 : Int32))) i_X10_isWhole_122 rfl rfl (by decide) ?_
          refine ev_goto (tg := 87) i_X10_isWhole_125 (by decide) ?_
          exact ih (1 : Int32) (x6 + (1 : Int32)) _ hf
def f_X10_isWhole_L175 (k216 : Int32 → Option (Int32 × MH)) (h : MH) (a0 : Nat) (x3 : Int32) (x5 : Int32) : Nat → Int32 → Int32 → Option (Int32 × MH)
  | 0, _, _ => none
  | n + 1, x6, x7 => (if x3 ≤ x7 then (k216 x6) else ((if x6 = 0 then (k216 x6) else ((gR h a0 10 9).bind fun b187 => (aI h b187 x7).bind fun v192 => (gR h a0 10 10).bind fun b194 => (aI h b194 x7).bind fun v199 => (if v192 = v199 then (f_X10_isWhole_L175 k216 h a0 x3 x5 n (1 : Int32) (x7 + (1 : Int32))) else (f_X10_isWhole_L175 k216 h a0 x3 x5 n (0 : Int32) (x7 + (1 : Int32))))))))
set_option maxRecDepth 20000 in
theorem l_X10_isWhole_175 {G : GG} {k216 : Int32 → Option (Int32 × MH)} {h : MH} {a0 : Nat} {x3 : Int32} {x5 : Int32} (hk216 : ∀ (x6z : Int32) (r : (Int32 × MH)), k216 x6z = some r → Ev G 4 M_X10_isWhole 216 [none, none, none, none, none, some (.int x5), some (.int x6z), none] [] h (some (.int r.1)) r.2) : ∀ (n : Nat) (x6 : Int32) (x7 : Int32) (r : (Int32 × MH)), f_X10_isWhole_L175 k216 h a0 x3 x5 n x6 x7 = some r → Ev G 4 M_X10_isWhole 175 [some (.ref a0), none, none, some (.int x3), none, some (.int x5), some (.int x6), some (.int x7)] [] h (some (.int r.1)) r.2 := by
  intro n
  induction n with
  | zero => intro x6 x7 r hf; rw [f_X10_isWhole_L175] at hf; cases hf
  | succ n ih =>
    intro x6 x7 r hf
    rw [f_X10_isWhole_L175] at hf
    refine ev_iload i_X10_isWhole_175 rfl ?_
    refine ev_iload_n i_X10_isWhole_177 rfl ?_
    refine ev_icmp_ge (tg := 216) i_X10_isWhole_178 (by decide) (fun c178 => ?_) (fun c178 => ?_)
    · rw [if_pos c178] at hf
      refine ev_sub (lc2 := [none, none, none, none, none, some (.int x5), some (.int x6), none]) ⟨Or.inl rfl, Or.inr rfl, Or.inr rfl, Or.inl rfl, Or.inr rfl, Or.inr rfl, Or.inr rfl, Or.inl rfl, trivial⟩ ?_
      exact hk216 x6 _ hf
    · rw [if_neg c178] at hf
      refine ev_iload i_X10_isWhole_181 rfl ?_
      refine ev_if_eq (tg := 216) i_X10_isWhole_183 (by decide) (fun c183 => ?_) (fun c183 => ?_)
      · rw [if_pos c183] at hf
        refine ev_sub (lc2 := [none, none, none, none, none, some (.int x5), some (.int x6), none]) ⟨Or.inl rfl, Or.inr rfl, Or.inr rfl, Or.inl rfl, Or.inr rfl, Or.inr rfl, Or.inr rfl, Or.inl rfl, trivial⟩ ?_
        exact hk216 x6 _ hf
      · rw [if_neg c183] at hf
        refine ev_aload_n i_X10_isWhole_186 rfl ?_
        obtain ⟨b187, e187, hf⟩ := ob hf
        refine ev_gR i_X10_isWhole_187 fl_X10_28 rfl e187 ?_
        refine ev_iload i_X10_isWhole_190 rfl ?_
        obtain ⟨v192, e192, hf⟩ := ob hf
        refine ev_aI i_X10_isWhole_192 e192 ?_
        refine ev_aload_n i_X10_isWhole_193 rfl ?_
        obtain ⟨b194, e194, hf⟩ := ob hf
        refine ev_gR i_X10_isWhole_194 fl_X10_31 rfl e194 ?_
        refine ev_iload i_X10_isWhole_197 rfl ?_
        obtain ⟨v199, e199, hf⟩ := ob hf
        refine ev_aI i_X10_isWhole_199 e199 ?_
        refine ev_icmp_ne (tg := 207) i_X10_isWhole_200 (by decide) (fun c200 => ?_) (fun c200 => ?_)
        · rw [if_neg c200] at hf
          refine ev_iconst i_X10_isWhole_207 lt_i_0 ?_
          refine ev_istore i_X10_isWhole_208 (by decide) ?_
          refine ev_iinc (y := (x7 + (1 : Int32))) i_X10_isWhole_210 rfl rfl (by decide) ?_
          refine ev_goto (tg := 175) i_X10_isWhole_213 (by decide) ?_
          exact ih (0 : Int32) (x7 + (1 : Int32)) _ hf
        · rw [if_pos c200] at hf
          refine ev_iconst i_X10_isWhole_203 lt_i_1 ?_
          refine ev_goto (tg := 208) i_X10_isWhole_204 (by decide) ?_
          refine ev_istore i_X10_isWhole_208 (by decide) ?_
          refine ev_iinc (y := (x7 + (1 : Int32))) i_X10_isWhole_210 rfl rfl (by decide) ?_
          refine ev_goto (tg := 175) i_X10_isWhole_213 (by decide) ?_
          exact ih (1 : Int32) (x7 + (1 : Int32)) _ hf
def f_X10_isWhole_j170 (h : MH) (a0 : Nat) (x3 : Int32) (x5 : Int32) (xs0 : Int32) : Option (Int32 × MH) := f_X10_isWhole_L175 (fun x6e216 => (if x5 = 0 then ((if x6e216 = 0 then (some ((0 : Int32), h)) else (some ((1 : Int32), h)))) else (some ((1 : Int32), h)))) h a0 x3 x5 fuel xs0 (0 : Int32)
set_option maxRecDepth 20000 in
theorem j_X10_isWhole_170 {G : GG} {h : MH} {a0 : Nat} {x3 : Int32} {x5 : Int32} {xs0 : Int32} {r : (Int32 × MH)} (hf : f_X10_isWhole_j170 h a0 x3 x5 xs0 = some r) : Ev G 4 M_X10_isWhole 170 [some (.ref a0), none, none, some (.int x3), none, some (.int x5), none, none] [.int xs0] h (some (.int r.1)) r.2 := by
  unfold f_X10_isWhole_j170 at hf
  refine ev_istore i_X10_isWhole_170 (by decide) ?_
  refine ev_iconst i_X10_isWhole_172 lt_i_0 ?_
  refine ev_istore i_X10_isWhole_173 (by decide) ?_
  exact l_X10_isWhole_175 (fun x6e216 r hf => by
    refine ev_iload i_X10_isWhole_216 rfl ?_
    refine ev_if_ne (tg := 226) i_X10_isWhole_218 (by decide) (fun c218 => ?_) (fun c218 => ?_)
    · rw [if_neg c218] at hf
      refine ev_iconst i_X10_isWhole_226 lt_i_1 ?_
      refine ev_goto (tg := 231) i_X10_isWhole_227 (by decide) ?_
      cases hf
      exact ev_zret i_X10_isWhole_231 rfl (by decide)
    · rw [if_pos c218] at hf
      refine ev_iload i_X10_isWhole_221 rfl ?_
      refine ev_if_eq (tg := 230) i_X10_isWhole_223 (by decide) (fun c223 => ?_) (fun c223 => ?_)
      · rw [if_pos c223] at hf
        refine ev_iconst i_X10_isWhole_230 lt_i_0 ?_
        cases hf
        exact ev_zret i_X10_isWhole_231 rfl (by decide)
      · rw [if_neg c223] at hf
        refine ev_iconst i_X10_isWhole_226 lt_i_1 ?_
        refine ev_goto (tg := 231) i_X10_isWhole_227 (by decide) ?_
        cases hf
        exact ev_zret i_X10_isWhole_231 rfl (by decide)) fuel xs0 (0 : Int32) _ hf
def f_X10_isWhole_j169 (h : MH) (a0 : Nat) (x3 : Int32) (x5 : Int32) : Option (Int32 × MH) := f_X10_isWhole_j170 h a0 x3 x5 (0 : Int32)
set_option maxRecDepth 20000 in
theorem j_X10_isWhole_169 {G : GG} {h : MH} {a0 : Nat} {x3 : Int32} {x5 : Int32} {r : (Int32 × MH)} (hf : f_X10_isWhole_j169 h a0 x3 x5 = some r) : Ev G 4 M_X10_isWhole 169 [some (.ref a0), none, none, some (.int x3), none, some (.int x5), none, none] [] h (some (.int r.1)) r.2 := by
  unfold f_X10_isWhole_j169 at hf
  refine ev_iconst i_X10_isWhole_169 lt_i_0 ?_
  exact j_X10_isWhole_170 hf
def f_X10_isWhole_j82 (h : MH) (a0 : Nat) (x1 : Int32) (x2 : Int32) (x3 : Int32) (x4 : Int32) (xs0 : Int32) : Option (Int32 × MH) := f_X10_isWhole_L87 (fun x5e128 => (f_X10_all h a0).bind fun v130 => (gR h a0 10 8).bind fun b134 => (aI h b134 (((6 : Int32) * x1) + (3 : Int32))).bind fun v143 => (f_X10_walks h a0 v130 v143 x2).bind fun h145 => (gI h145 a0 10 13).bind fun v149 => (if v149 = x3 then ((gI h145 a0 10 14).bind fun v157 => (if v157 = x4 then (f_X10_isWhole_j170 h145 a0 x3 x5e128 (1 : Int32)) else (f_X10_isWhole_j169 h145 a0 x3 x5e128))) else (f_X10_isWhole_j169 h145 a0 x3 x5e128))) h a0 x1 x2 x3 x4 fuel xs0 (0 : Int32)
set_option maxRecDepth 20000 in
theorem j_X10_isWhole_82 {G : GG} {h : MH} {a0 : Nat} {x1 : Int32} {x2 : Int32} {x3 : Int32} {x4 : Int32} {xs0 : Int32} {r : (Int32 × MH)} (hf : f_X10_isWhole_j82 h a0 x1 x2 x3 x4 xs0 = some r) : Ev G 4 M_X10_isWhole 82 [some (.ref a0), some (.int x1), some (.int x2), some (.int x3), some (.int x4), none, none, none] [.int xs0] h (some (.int r.1)) r.2 := by
  unfold f_X10_isWhole_j82 at hf
  refine ev_istore i_X10_isWhole_82 (by decide) ?_
  refine ev_iconst i_X10_isWhole_84 lt_i_0 ?_
  refine ev_istore i_X10_isWhole_85 (by decide) ?_
  exact l_X10_isWhole_87 (fun x5e128 r hf => by
    refine ev_aload_n i_X10_isWhole_128 rfl ?_
    refine ev_aload_n i_X10_isWhole_129 rfl ?_
    obtain ⟨v130, e130, hf⟩ := ob hf
    refine ev_cV_i i_X10_isWhole_130 lk_X10_isWhole_131 [] rfl rfl (by decide) (gK_of e130).1.1 (gK_of e130).1.2 (Nat.le_of_ble_eq_true rfl) (by decide) (e_X10_all e130) ?_
    refine ev_aload_n i_X10_isWhole_133 rfl ?_
    obtain ⟨b134, e134, hf⟩ := ob hf
    refine ev_gR i_X10_isWhole_134 fl_X10_25 rfl e134 ?_
    refine ev_bipush i_X10_isWhole_137 lt_b_6 ?_
    refine ev_iload_n i_X10_isWhole_139 rfl ?_
    refine ev_imul i_X10_isWhole_140 ?_
    refine ev_iconst i_X10_isWhole_141 lt_i_3 ?_
    refine ev_iadd i_X10_isWhole_142 ?_
    obtain ⟨v143, e143, hf⟩ := ob hf
    refine ev_aI i_X10_isWhole_143 e143 ?_
    refine ev_iload_n i_X10_isWhole_144 rfl ?_
    obtain ⟨h145, e145, hf⟩ := ob hf
    refine ev_cV_v i_X10_isWhole_145 lk_X10_isWhole_138 [.int v130, .int v143, .int x2] rfl rfl (by decide) (gK_of e145).1.1 (gK_of e145).1.2 (Nat.le_of_ble_eq_true rfl) (by decide) (e_X10_walks e145) ?_
    refine ev_aload_n i_X10_isWhole_148 rfl ?_
    obtain ⟨v149, e149, hf⟩ := ob hf
    refine ev_gI i_X10_isWhole_149 fl_X10_122 rfl e149 ?_
    refine ev_iload_n i_X10_isWhole_152 rfl ?_
    refine ev_icmp_ne (tg := 169) i_X10_isWhole_153 (by decide) (fun c153 => ?_) (fun c153 => ?_)
    · rw [if_neg c153] at hf
      refine ev_sub (lc2 := [some (.ref a0), none, none, some (.int x3), none, some (.int x5e128), none, none]) ⟨Or.inr rfl, Or.inl rfl, Or.inl rfl, Or.inr rfl, Or.inl rfl, Or.inr rfl, Or.inr rfl, Or.inr rfl, trivial⟩ ?_
      exact j_X10_isWhole_169 hf
    · rw [if_pos c153] at hf
      refine ev_aload_n i_X10_isWhole_156 rfl ?_
      obtain ⟨v157, e157, hf⟩ := ob hf
      refine ev_gI i_X10_isWhole_157 fl_X10_125 rfl e157 ?_
      refine ev_iload i_X10_isWhole_160 rfl ?_
      refine ev_icmp_ne (tg := 169) i_X10_isWhole_162 (by decide) (fun c162 => ?_) (fun c162 => ?_)
      · rw [if_neg c162] at hf
        refine ev_sub (lc2 := [some (.ref a0), none, none, some (.int x3), none, some (.int x5e128), none, none]) ⟨Or.inr rfl, Or.inl rfl, Or.inl rfl, Or.inr rfl, Or.inl rfl, Or.inr rfl, Or.inr rfl, Or.inr rfl, trivial⟩ ?_
        exact j_X10_isWhole_169 hf
      · rw [if_pos c162] at hf
        refine ev_iconst i_X10_isWhole_165 lt_i_1 ?_
        refine ev_goto (tg := 170) i_X10_isWhole_166 (by decide) ?_
        refine ev_sub (lc2 := [some (.ref a0), none, none, some (.int x3), none, some (.int x5e128), none, none]) ⟨Or.inr rfl, Or.inl rfl, Or.inl rfl, Or.inr rfl, Or.inl rfl, Or.inr rfl, Or.inr rfl, Or.inr rfl, trivial⟩ ?_
        exact j_X10_isWhole_170 hf) fuel xs0 (0 : Int32) _ hf
def f_X10_isWhole_j81 (h : MH) (a0 : Nat) (x1 : Int32) (x2 : Int32) (x3 : Int32) (x4 : Int32) : Option (Int32 × MH) := f_X10_isWhole_j82 h a0 x1 x2 x3 x4 (0 : Int32)
set_option maxRecDepth 20000 in
theorem j_X10_isWhole_81 {G : GG} {h : MH} {a0 : Nat} {x1 : Int32} {x2 : Int32} {x3 : Int32} {x4 : Int32} {r : (Int32 × MH)} (hf : f_X10_isWhole_j81 h a0 x1 x2 x3 x4 = some r) : Ev G 4 M_X10_isWhole 81 [some (.ref a0), some (.int x1), some (.int x2), some (.int x3), some (.int x4), none, none, none] [] h (some (.int r.1)) r.2 := by
  unfold f_X10_isWhole_j81 at hf
  refine ev_iconst i_X10_isWhole_81 lt_i_0 ?_
  exact j_X10_isWhole_82 hf
def f_X10_isWhole (h : MH) (a0 : Nat) (x1 : Int32) (x2 : Int32) : Option (Int32 × MH) := gK h a0 10 ((gI h a0 10 13).bind fun v1 => (gI h a0 10 14).bind fun v6 => f_X10_isWhole_L17 (fun he43 => (gR he43 a0 10 8).bind fun b46 => (aI he43 b46 (((6 : Int32) * x1) + (3 : Int32))).bind fun v55 => (f_X10_walks he43 a0 (0 : Int32) v55 x2).bind fun h57 => (gI h57 a0 10 13).bind fun v61 => (if v61 = v1 then ((gI h57 a0 10 14).bind fun v69 => (if v69 = v6 then (f_X10_isWhole_j82 h57 a0 x1 x2 v1 v6 (1 : Int32)) else (f_X10_isWhole_j81 h57 a0 x1 x2 v1 v6))) else (f_X10_isWhole_j81 h57 a0 x1 x2 v1 v6))) a0 x1 x2 v1 v6 fuel h (0 : Int32))
set_option maxRecDepth 20000 in
theorem e_X10_isWhole {G : GG} {h : MH} {a0 : Nat} {x1 : Int32} {x2 : Int32} {r : (Int32 × MH)} (hf : f_X10_isWhole h a0 x1 x2 = some r) : Ev G 4 M_X10_isWhole 0 (ent M_X10_isWhole [.ref a0, .int x1, .int x2]) [] h (some (.int r.1)) r.2 := by
  unfold f_X10_isWhole at hf
  show Ev G 4 M_X10_isWhole 0 [some (.ref a0), some (.int x1), some (.int x2), none, none, none, none, none] [] h (some (.int r.1)) r.2
  obtain ⟨-, hf⟩ := gK_of hf
  refine ev_aload_n i_X10_isWhole_0 rfl ?_
  obtain ⟨v1, e1, hf⟩ := ob hf
  refine ev_gI i_X10_isWhole_1 fl_X10_122 rfl e1 ?_
  refine ev_istore_n i_X10_isWhole_4 (by decide) ?_
  refine ev_aload_n i_X10_isWhole_5 rfl ?_
  obtain ⟨v6, e6, hf⟩ := ob hf
  refine ev_gI i_X10_isWhole_6 fl_X10_125 rfl e6 ?_
  refine ev_istore i_X10_isWhole_9 (by decide) ?_
  refine ev_iconst i_X10_isWhole_11 lt_i_1 ?_
  refine ev_istore i_X10_isWhole_12 (by decide) ?_
  refine ev_iconst i_X10_isWhole_14 lt_i_0 ?_
  refine ev_istore i_X10_isWhole_15 (by decide) ?_
  refine ev_sub (lc2 := [some (.ref a0), some (.int x1), some (.int x2), some (.int v1), some (.int v6), none, some (.int (0 : Int32)), none]) ⟨Or.inr rfl, Or.inr rfl, Or.inr rfl, Or.inr rfl, Or.inr rfl, Or.inl rfl, Or.inr rfl, Or.inr rfl, trivial⟩ ?_
  exact l_X10_isWhole_17 (fun he43 r hf => by
    refine ev_aload_n i_X10_isWhole_43 rfl ?_
    refine ev_iconst i_X10_isWhole_44 lt_i_0 ?_
    refine ev_aload_n i_X10_isWhole_45 rfl ?_
    obtain ⟨b46, e46, hf⟩ := ob hf
    refine ev_gR i_X10_isWhole_46 fl_X10_25 rfl e46 ?_
    refine ev_bipush i_X10_isWhole_49 lt_b_6 ?_
    refine ev_iload_n i_X10_isWhole_51 rfl ?_
    refine ev_imul i_X10_isWhole_52 ?_
    refine ev_iconst i_X10_isWhole_53 lt_i_3 ?_
    refine ev_iadd i_X10_isWhole_54 ?_
    obtain ⟨v55, e55, hf⟩ := ob hf
    refine ev_aI i_X10_isWhole_55 e55 ?_
    refine ev_iload_n i_X10_isWhole_56 rfl ?_
    obtain ⟨h57, e57, hf⟩ := ob hf
    refine ev_cV_v i_X10_isWhole_57 lk_X10_isWhole_138 [.int (0 : Int32), .int v55, .int x2] rfl rfl (by decide) (gK_of e57).1.1 (gK_of e57).1.2 (Nat.le_of_ble_eq_true rfl) (by decide) (e_X10_walks e57) ?_
    refine ev_aload_n i_X10_isWhole_60 rfl ?_
    obtain ⟨v61, e61, hf⟩ := ob hf
    refine ev_gI i_X10_isWhole_61 fl_X10_122 rfl e61 ?_
    refine ev_iload_n i_X10_isWhole_64 rfl ?_
    refine ev_icmp_ne (tg := 81) i_X10_isWhole_65 (by decide) (fun c65 => ?_) (fun c65 => ?_)
    · rw [if_neg c65] at hf
      exact j_X10_isWhole_81 hf
    · rw [if_pos c65] at hf
      refine ev_aload_n i_X10_isWhole_68 rfl ?_
      obtain ⟨v69, e69, hf⟩ := ob hf
      refine ev_gI i_X10_isWhole_69 fl_X10_125 rfl e69 ?_
      refine ev_iload i_X10_isWhole_72 rfl ?_
      refine ev_icmp_ne (tg := 81) i_X10_isWhole_74 (by decide) (fun c74 => ?_) (fun c74 => ?_)
      · rw [if_neg c74] at hf
        exact j_X10_isWhole_81 hf
      · rw [if_pos c74] at hf
        refine ev_iconst i_X10_isWhole_77 lt_i_1 ?_
        refine ev_goto (tg := 82) i_X10_isWhole_78 (by decide) ?_
        exact j_X10_isWhole_82 hf) fuel h (0 : Int32) _ hf
def f_X10_isKept_L113 (k161 : Int32 → Option (Int32 × MH)) (h : MH) (a0 : Nat) (x1 : Int32) : Nat → Int32 → Int32 → Option (Int32 × MH)
  | 0, _, _ => none
  | n + 1, x4, x5 => (gI h a0 10 13).bind fun v116 => (if v116 ≤ x5 then (k161 x4) else ((if x4 = 0 then ((gR h a0 10 9).bind fun b128 => (aI h b128 x5).bind fun v133 => (gR h a0 10 8).bind fun b135 => (aI h b135 (((6 : Int32) * x1) + (5 : Int32))).bind fun v144 => (if v133 = v144 then (f_X10_isKept_L113 k161 h a0 x1 n (1 : Int32) (x5 + (1 : Int32))) else (f_X10_isKept_L113 k161 h a0 x1 n (0 : Int32) (x5 + (1 : Int32))))) else (f_X10_isKept_L113 k161 h a0 x1 n (1 : Int32) (x5 + (1 : Int32))))))
set_option maxRecDepth 20000 in
theorem l_X10_isKept_113 {G : GG} {k161 : Int32 → Option (Int32 × MH)} {h : MH} {a0 : Nat} {x1 : Int32} (hk161 : ∀ (x4z : Int32) (r : (Int32 × MH)), k161 x4z = some r → Ev G 5 M_X10_isKept 161 [none, none, none, none, some (.int x4z), none] [] h (some (.int r.1)) r.2) : ∀ (n : Nat) (x4 : Int32) (x5 : Int32) (r : (Int32 × MH)), f_X10_isKept_L113 k161 h a0 x1 n x4 x5 = some r → Ev G 5 M_X10_isKept 113 [some (.ref a0), some (.int x1), none, none, some (.int x4), some (.int x5)] [] h (some (.int r.1)) r.2 := by
  intro n
  induction n with
  | zero => intro x4 x5 r hf; rw [f_X10_isKept_L113] at hf; cases hf
  | succ n ih =>
    intro x4 x5 r hf
    rw [f_X10_isKept_L113] at hf
    refine ev_iload i_X10_isKept_113 rfl ?_
    refine ev_aload_n i_X10_isKept_115 rfl ?_
    obtain ⟨v116, e116, hf⟩ := ob hf
    refine ev_gI i_X10_isKept_116 fl_X10_122 rfl e116 ?_
    refine ev_icmp_ge (tg := 161) i_X10_isKept_119 (by decide) (fun c119 => ?_) (fun c119 => ?_)
    · rw [if_pos c119] at hf
      refine ev_sub (lc2 := [none, none, none, none, some (.int x4), none]) ⟨Or.inl rfl, Or.inl rfl, Or.inr rfl, Or.inr rfl, Or.inr rfl, Or.inl rfl, trivial⟩ ?_
      exact hk161 x4 _ hf
    · rw [if_neg c119] at hf
      refine ev_iload i_X10_isKept_122 rfl ?_
      refine ev_if_ne (tg := 148) i_X10_isKept_124 (by decide) (fun c124 => ?_) (fun c124 => ?_)
      · rw [if_neg c124] at hf
        refine ev_iconst i_X10_isKept_148 lt_i_1 ?_
        refine ev_goto (tg := 153) i_X10_isKept_149 (by decide) ?_
        refine ev_istore i_X10_isKept_153 (by decide) ?_
        refine ev_iinc (y := (x5 + (1 : Int32))) i_X10_isKept_155 rfl rfl (by decide) ?_
        refine ev_goto (tg := 113) i_X10_isKept_158 (by decide) ?_
        exact ih (1 : Int32) (x5 + (1 : Int32)) _ hf
      · rw [if_pos c124] at hf
        refine ev_aload_n i_X10_isKept_127 rfl ?_
        obtain ⟨b128, e128, hf⟩ := ob hf
        refine ev_gR i_X10_isKept_128 fl_X10_28 rfl e128 ?_
        refine ev_iload i_X10_isKept_131 rfl ?_
        obtain ⟨v133, e133, hf⟩ := ob hf
        refine ev_aI i_X10_isKept_133 e133 ?_
        refine ev_aload_n i_X10_isKept_134 rfl ?_
        obtain ⟨b135, e135, hf⟩ := ob hf
        refine ev_gR i_X10_isKept_135 fl_X10_25 rfl e135 ?_
        refine ev_bipush i_X10_isKept_138 lt_b_6 ?_
        refine ev_iload_n i_X10_isKept_140 rfl ?_
        refine ev_imul i_X10_isKept_141 ?_
        refine ev_iconst i_X10_isKept_142 lt_i_5 ?_
        refine ev_iadd i_X10_isKept_143 ?_
        obtain ⟨v144, e144, hf⟩ := ob hf
        refine ev_aI i_X10_isKept_144 e144 ?_
        refine ev_icmp_ne (tg := 152) i_X10_isKept_145 (by decide) (fun c145 => ?_) (fun c145 => ?_)
        · rw [if_neg c145] at hf
          refine ev_iconst i_X10_isKept_152 lt_i_0 ?_
          refine ev_istore i_X10_isKept_153 (by decide) ?_
          refine ev_iinc (y := (x5 + (1 : Int32))) i_X10_isKept_155 rfl rfl (by decide) ?_
          refine ev_goto (tg := 113) i_X10_isKept_158 (by decide) ?_
          exact ih (0 : Int32) (x5 + (1 : Int32)) _ hf
        · rw [if_pos c145] at hf
          refine ev_iconst i_X10_isKept_148 lt_i_1 ?_
          refine ev_goto (tg := 153) i_X10_isKept_149 (by decide) ?_
          refine ev_istore i_X10_isKept_153 (by decide) ?_
          refine ev_iinc (y := (x5 + (1 : Int32))) i_X10_isKept_155 rfl rfl (by decide) ?_
          refine ev_goto (tg := 113) i_X10_isKept_158 (by decide) ?_
          exact ih (1 : Int32) (x5 + (1 : Int32)) _ hf
def f_X10_isKept_j108 (h : MH) (a0 : Nat) (x1 : Int32) (xs0 : Int32) : Option (Int32 × MH) := f_X10_isKept_L113 (fun x4e161 => (zR x4e161).bind fun vz => some (vz, h)) h a0 x1 fuel xs0 (0 : Int32)
set_option maxRecDepth 20000 in
theorem j_X10_isKept_108 {G : GG} {h : MH} {a0 : Nat} {x1 : Int32} {xs0 : Int32} {r : (Int32 × MH)} (hf : f_X10_isKept_j108 h a0 x1 xs0 = some r) : Ev G 5 M_X10_isKept 108 [some (.ref a0), some (.int x1), none, none, none, none] [.int xs0] h (some (.int r.1)) r.2 := by
  unfold f_X10_isKept_j108 at hf
  refine ev_istore i_X10_isKept_108 (by decide) ?_
  refine ev_iconst i_X10_isKept_110 lt_i_0 ?_
  refine ev_istore i_X10_isKept_111 (by decide) ?_
  exact l_X10_isKept_113 (fun x4e161 r hf => by
    refine ev_iload i_X10_isKept_161 rfl ?_
    obtain ⟨vz, ez, hf⟩ := ob hf
    obtain ⟨hz, rfl⟩ := zR_of ez
    cases hf
    exact ev_zret i_X10_isKept_163 rfl hz) fuel xs0 (0 : Int32) _ hf
def f_X10_isKept (h : MH) (a0 : Nat) (x1 : Int32) (x2 : Int32) : Option (Int32 × MH) := gK h a0 10 ((gR h a0 10 8).bind fun b1 => (aI h b1 (((6 : Int32) * x1) + (4 : Int32))).bind fun v10 => (gR h a0 10 8).bind fun b13 => (aI h b13 ((6 : Int32) * x1)).bind fun v20 => (if v20 = 0 then ((gI h a0 10 14).bind fun v53 => (if v53 = v10 then (some ((1 : Int32), h)) else (some ((0 : Int32), h)))) else (if v20 = 1 then ((gI h a0 10 14).bind fun v67 => (if v67 = (12 : Int32) then (some ((0 : Int32), h)) else (some ((1 : Int32), h)))) else (if v20 = 2 then ((gI h a0 10 14).bind fun v82 => (if v82 = v10 then (some ((0 : Int32), h)) else (some ((1 : Int32), h)))) else (if v20 = 3 then ((gI h a0 10 14).bind fun v96 => (if v96 = v10 then (f_X10_isKept_j108 h a0 x1 (0 : Int32)) else (f_X10_isKept_j108 h a0 x1 (1 : Int32)))) else ((f_X10_isWhole h a0 x1 x2).bind fun r167 => (zR r167.1).bind fun vz => some (vz, r167.2)))))))
set_option maxRecDepth 20000 in
theorem e_X10_isKept {G : GG} {h : MH} {a0 : Nat} {x1 : Int32} {x2 : Int32} {r : (Int32 × MH)} (hf : f_X10_isKept h a0 x1 x2 = some r) : Ev G 5 M_X10_isKept 0 (ent M_X10_isKept [.ref a0, .int x1, .int x2]) [] h (some (.int r.1)) r.2 := by
  unfold f_X10_isKept at hf
  show Ev G 5 M_X10_isKept 0 [some (.ref a0), some (.int x1), some (.int x2), none, none, none] [] h (some (.int r.1)) r.2
  obtain ⟨-, hf⟩ := gK_of hf
  refine ev_aload_n i_X10_isKept_0 rfl ?_
  obtain ⟨b1, e1, hf⟩ := ob hf
  refine ev_gR i_X10_isKept_1 fl_X10_25 rfl e1 ?_
  refine ev_bipush i_X10_isKept_4 lt_b_6 ?_
  refine ev_iload_n i_X10_isKept_6 rfl ?_
  refine ev_imul i_X10_isKept_7 ?_
  refine ev_iconst i_X10_isKept_8 lt_i_4 ?_
  refine ev_iadd i_X10_isKept_9 ?_
  obtain ⟨v10, e10, hf⟩ := ob hf
  refine ev_aI i_X10_isKept_10 e10 ?_
  refine ev_istore_n i_X10_isKept_11 (by decide) ?_
  refine ev_aload_n i_X10_isKept_12 rfl ?_
  obtain ⟨b13, e13, hf⟩ := ob hf
  refine ev_gR i_X10_isKept_13 fl_X10_25 rfl e13 ?_
  refine ev_bipush i_X10_isKept_16 lt_b_6 ?_
  refine ev_iload_n i_X10_isKept_18 rfl ?_
  refine ev_imul i_X10_isKept_19 ?_
  obtain ⟨v20, e20, hf⟩ := ob hf
  refine ev_aI i_X10_isKept_20 e20 ?_
  by_cases c21_0 : v20 = 0
  · rw [if_pos c21_0] at hf
    refine ev_ts (tg := 52) 0 31 i_X10_isKept_21 c21_0 (by decide) ?_
    refine ev_aload_n i_X10_isKept_52 rfl ?_
    obtain ⟨v53, e53, hf⟩ := ob hf
    refine ev_gI i_X10_isKept_53 fl_X10_125 rfl e53 ?_
    refine ev_iload_n i_X10_isKept_56 rfl ?_
    refine ev_icmp_ne (tg := 64) i_X10_isKept_57 (by decide) (fun c57 => ?_) (fun c57 => ?_)
    · rw [if_neg c57] at hf
      refine ev_iconst i_X10_isKept_64 lt_i_0 ?_
      cases hf
      exact ev_zret i_X10_isKept_65 rfl (by decide)
    · rw [if_pos c57] at hf
      refine ev_iconst i_X10_isKept_60 lt_i_1 ?_
      refine ev_goto (tg := 65) i_X10_isKept_61 (by decide) ?_
      cases hf
      exact ev_zret i_X10_isKept_65 rfl (by decide)
  rw [if_neg c21_0] at hf
  by_cases c21_1 : v20 = 1
  · rw [if_pos c21_1] at hf
    refine ev_ts (tg := 66) 1 45 i_X10_isKept_21 c21_1 (by decide) ?_
    refine ev_aload_n i_X10_isKept_66 rfl ?_
    obtain ⟨v67, e67, hf⟩ := ob hf
    refine ev_gI i_X10_isKept_67 fl_X10_125 rfl e67 ?_
    refine ev_bipush i_X10_isKept_70 lt_b_12 ?_
    refine ev_icmp_eq (tg := 79) i_X10_isKept_72 (by decide) (fun c72 => ?_) (fun c72 => ?_)
    · rw [if_pos c72] at hf
      refine ev_iconst i_X10_isKept_79 lt_i_0 ?_
      cases hf
      exact ev_zret i_X10_isKept_80 rfl (by decide)
    · rw [if_neg c72] at hf
      refine ev_iconst i_X10_isKept_75 lt_i_1 ?_
      refine ev_goto (tg := 80) i_X10_isKept_76 (by decide) ?_
      cases hf
      exact ev_zret i_X10_isKept_80 rfl (by decide)
  rw [if_neg c21_1] at hf
  by_cases c21_2 : v20 = 2
  · rw [if_pos c21_2] at hf
    refine ev_ts (tg := 81) 2 60 i_X10_isKept_21 c21_2 (by decide) ?_
    refine ev_aload_n i_X10_isKept_81 rfl ?_
    obtain ⟨v82, e82, hf⟩ := ob hf
    refine ev_gI i_X10_isKept_82 fl_X10_125 rfl e82 ?_
    refine ev_iload_n i_X10_isKept_85 rfl ?_
    refine ev_icmp_eq (tg := 93) i_X10_isKept_86 (by decide) (fun c86 => ?_) (fun c86 => ?_)
    · rw [if_pos c86] at hf
      refine ev_iconst i_X10_isKept_93 lt_i_0 ?_
      cases hf
      exact ev_zret i_X10_isKept_94 rfl (by decide)
    · rw [if_neg c86] at hf
      refine ev_iconst i_X10_isKept_89 lt_i_1 ?_
      refine ev_goto (tg := 94) i_X10_isKept_90 (by decide) ?_
      cases hf
      exact ev_zret i_X10_isKept_94 rfl (by decide)
  rw [if_neg c21_2] at hf
  by_cases c21_3 : v20 = 3
  · rw [if_pos c21_3] at hf
    refine ev_ts (tg := 95) 3 74 i_X10_isKept_21 c21_3 (by decide) ?_
    refine ev_aload_n i_X10_isKept_95 rfl ?_
    obtain ⟨v96, e96, hf⟩ := ob hf
    refine ev_gI i_X10_isKept_96 fl_X10_125 rfl e96 ?_
    refine ev_iload_n i_X10_isKept_99 rfl ?_
    refine ev_icmp_eq (tg := 107) i_X10_isKept_100 (by decide) (fun c100 => ?_) (fun c100 => ?_)
    · rw [if_pos c100] at hf
      refine ev_iconst i_X10_isKept_107 lt_i_0 ?_
      refine ev_sub (lc2 := [some (.ref a0), some (.int x1), none, none, none, none]) ⟨Or.inr rfl, Or.inr rfl, Or.inl rfl, Or.inl rfl, Or.inr rfl, Or.inr rfl, trivial⟩ ?_
      exact j_X10_isKept_108 hf
    · rw [if_neg c100] at hf
      refine ev_iconst i_X10_isKept_103 lt_i_1 ?_
      refine ev_goto (tg := 108) i_X10_isKept_104 (by decide) ?_
      refine ev_sub (lc2 := [some (.ref a0), some (.int x1), none, none, none, none]) ⟨Or.inr rfl, Or.inr rfl, Or.inl rfl, Or.inl rfl, Or.inr rfl, Or.inr rfl, trivial⟩ ?_
      exact j_X10_isKept_108 hf
  rw [if_neg c21_3] at hf
  refine ev_tsOut (tg := 164) i_X10_isKept_21 (ts_out (n := 3) (by decide) (fun k hk => by rcases (show k = 0 ∨ k = 1 ∨ k = 2 ∨ k = 3 by omega) with rfl | rfl | rfl | rfl <;> assumption)) (by decide) ?_
  refine ev_aload_n i_X10_isKept_164 rfl ?_
  refine ev_iload_n i_X10_isKept_165 rfl ?_
  refine ev_iload_n i_X10_isKept_166 rfl ?_
  obtain ⟨r167, e167, hf⟩ := ob hf
  refine ev_cV_i i_X10_isKept_167 lk_X10_isKept_145 [.int x1, .int x2] rfl rfl (by decide) (gK_of e167).1.1 (gK_of e167).1.2 (Nat.le_of_ble_eq_true rfl) (by decide) (e_X10_isWhole e167) ?_
  obtain ⟨vz, ez, hf⟩ := ob hf
  obtain ⟨hz, rfl⟩ := zR_of ez
  cases hf
  exact ev_zret i_X10_isKept_170 rfl hz
def f_X10_breaks_L2 (k74 : MH → Option (Int32 × MH)) (a0 : Nat) (x1 : Int32) (x2 : Int32) : Nat → MH → Int32 → Option (Int32 × MH)
  | 0, _, _ => none
  | n + 1, h, x3 => (if (16 : Int32) ≤ x3 then (k74 h) else ((gR h a0 10 8).bind fun b10 => (aI h b10 (((6 : Int32) * x1) + (1 : Int32))).bind fun v19 => (gR h a0 10 8).bind fun b21 => (aI h b21 (((6 : Int32) * x1) + (2 : Int32))).bind fun v30 => (f_X10_isOfSpan h x3 v19 v30).bind fun v31 => (if v31 = 0 then (f_X10_breaks_L2 k74 a0 x1 x2 n h (x3 + (1 : Int32))) else ((gR h a0 10 8).bind fun b43 => (aI h b43 (((6 : Int32) * x1) + (3 : Int32))).bind fun v52 => (f_X10_walks h a0 x2 v52 x3).bind fun h54 => (f_X10_isKept h54 a0 x1 x3).bind fun r60 => (if r60.1 = 0 then (some (x3, r60.2)) else (f_X10_breaks_L2 k74 a0 x1 x2 n r60.2 (x3 + (1 : Int32))))))))
set_option maxRecDepth 20000 in
theorem l_X10_breaks_2 {G : GG} {k74 : MH → Option (Int32 × MH)} {a0 : Nat} {x1 : Int32} {x2 : Int32} (hk74 : ∀ (hz : MH) (r : (Int32 × MH)), k74 hz = some r → Ev G 6 M_X10_breaks 74 [none, none, none, none] [] hz (some (.int r.1)) r.2) : ∀ (n : Nat) (h : MH) (x3 : Int32) (r : (Int32 × MH)), f_X10_breaks_L2 k74 a0 x1 x2 n h x3 = some r → Ev G 6 M_X10_breaks 2 [some (.ref a0), some (.int x1), some (.int x2), some (.int x3)] [] h (some (.int r.1)) r.2 := by
  intro n
  induction n with
  | zero => intro h x3 r hf; rw [f_X10_breaks_L2] at hf; cases hf
  | succ n ih =>
    intro h x3 r hf
    rw [f_X10_breaks_L2] at hf
    refine ev_iload_n i_X10_breaks_2 rfl ?_
    refine ev_bipush i_X10_breaks_3 lt_b_16 ?_
    refine ev_icmp_ge (tg := 74) i_X10_breaks_5 (by decide) (fun c5 => ?_) (fun c5 => ?_)
    · rw [if_pos c5] at hf
      refine ev_sub (lc2 := [none, none, none, none]) ⟨Or.inl rfl, Or.inl rfl, Or.inl rfl, Or.inl rfl, trivial⟩ ?_
      exact hk74 h _ hf
    · rw [if_neg c5] at hf
      refine ev_iload_n i_X10_breaks_8 rfl ?_
      refine ev_aload_n i_X10_breaks_9 rfl ?_
      obtain ⟨b10, e10, hf⟩ := ob hf
      refine ev_gR i_X10_breaks_10 fl_X10_25 rfl e10 ?_
      refine ev_bipush i_X10_breaks_13 lt_b_6 ?_
      refine ev_iload_n i_X10_breaks_15 rfl ?_
      refine ev_imul i_X10_breaks_16 ?_
      refine ev_iconst i_X10_breaks_17 lt_i_1 ?_
      refine ev_iadd i_X10_breaks_18 ?_
      obtain ⟨v19, e19, hf⟩ := ob hf
      refine ev_aI i_X10_breaks_19 e19 ?_
      refine ev_aload_n i_X10_breaks_20 rfl ?_
      obtain ⟨b21, e21, hf⟩ := ob hf
      refine ev_gR i_X10_breaks_21 fl_X10_25 rfl e21 ?_
      refine ev_bipush i_X10_breaks_24 lt_b_6 ?_
      refine ev_iload_n i_X10_breaks_26 rfl ?_
      refine ev_imul i_X10_breaks_27 ?_
      refine ev_iconst i_X10_breaks_28 lt_i_2 ?_
      refine ev_iadd i_X10_breaks_29 ?_
      obtain ⟨v30, e30, hf⟩ := ob hf
      refine ev_aI i_X10_breaks_30 e30 ?_
      obtain ⟨v31, e31, hf⟩ := ob hf
      refine ev_cS_i i_X10_breaks_31 lk_X10_breaks_116 [.int x3, .int v19, .int v30] rfl rfl (by decide) (Nat.le_of_ble_eq_true rfl) (by decide) (e_X10_isOfSpan e31) ?_
      refine ev_if_ne (tg := 40) i_X10_breaks_34 (by decide) (fun c34 => ?_) (fun c34 => ?_)
      · rw [if_neg c34] at hf
        refine ev_aload_n i_X10_breaks_40 rfl ?_
        refine ev_iload_n i_X10_breaks_41 rfl ?_
        refine ev_aload_n i_X10_breaks_42 rfl ?_
        obtain ⟨b43, e43, hf⟩ := ob hf
        refine ev_gR i_X10_breaks_43 fl_X10_25 rfl e43 ?_
        refine ev_bipush i_X10_breaks_46 lt_b_6 ?_
        refine ev_iload_n i_X10_breaks_48 rfl ?_
        refine ev_imul i_X10_breaks_49 ?_
        refine ev_iconst i_X10_breaks_50 lt_i_3 ?_
        refine ev_iadd i_X10_breaks_51 ?_
        obtain ⟨v52, e52, hf⟩ := ob hf
        refine ev_aI i_X10_breaks_52 e52 ?_
        refine ev_iload_n i_X10_breaks_53 rfl ?_
        obtain ⟨h54, e54, hf⟩ := ob hf
        refine ev_cV_v i_X10_breaks_54 lk_X10_breaks_138 [.int x2, .int v52, .int x3] rfl rfl (by decide) (gK_of e54).1.1 (gK_of e54).1.2 (Nat.le_of_ble_eq_true rfl) (by decide) (e_X10_walks e54) ?_
        refine ev_aload_n i_X10_breaks_57 rfl ?_
        refine ev_iload_n i_X10_breaks_58 rfl ?_
        refine ev_iload_n i_X10_breaks_59 rfl ?_
        obtain ⟨r60, e60, hf⟩ := ob hf
        refine ev_cV_i i_X10_breaks_60 lk_X10_breaks_148 [.int x1, .int x3] rfl rfl (by decide) (gK_of e60).1.1 (gK_of e60).1.2 (Nat.le_of_ble_eq_true rfl) (by decide) (e_X10_isKept e60) ?_
        refine ev_if_ne (tg := 68) i_X10_breaks_63 (by decide) (fun c63 => ?_) (fun c63 => ?_)
        · rw [if_neg c63] at hf
          refine ev_iinc (y := (x3 + (1 : Int32))) i_X10_breaks_68 rfl rfl (by decide) ?_
          refine ev_goto (tg := 2) i_X10_breaks_71 (by decide) ?_
          exact ih r60.2 (x3 + (1 : Int32)) _ hf
        · rw [if_pos c63] at hf
          refine ev_iload_n i_X10_breaks_66 rfl ?_
          cases hf
          exact ev_iiret i_X10_breaks_67 rfl
      · rw [if_pos c34] at hf
        refine ev_goto (tg := 68) i_X10_breaks_37 (by decide) ?_
        refine ev_iinc (y := (x3 + (1 : Int32))) i_X10_breaks_68 rfl rfl (by decide) ?_
        refine ev_goto (tg := 2) i_X10_breaks_71 (by decide) ?_
        exact ih h (x3 + (1 : Int32)) _ hf
def f_X10_breaks (h : MH) (a0 : Nat) (x1 : Int32) (x2 : Int32) : Option (Int32 × MH) := gK h a0 10 (f_X10_breaks_L2 (fun he74 => some ((-1 : Int32), he74)) a0 x1 x2 fuel h (0 : Int32))
set_option maxRecDepth 20000 in
theorem e_X10_breaks {G : GG} {h : MH} {a0 : Nat} {x1 : Int32} {x2 : Int32} {r : (Int32 × MH)} (hf : f_X10_breaks h a0 x1 x2 = some r) : Ev G 6 M_X10_breaks 0 (ent M_X10_breaks [.ref a0, .int x1, .int x2]) [] h (some (.int r.1)) r.2 := by
  unfold f_X10_breaks at hf
  show Ev G 6 M_X10_breaks 0 [some (.ref a0), some (.int x1), some (.int x2), none] [] h (some (.int r.1)) r.2
  obtain ⟨-, hf⟩ := gK_of hf
  refine ev_iconst i_X10_breaks_0 lt_i_0 ?_
  refine ev_istore_n i_X10_breaks_1 (by decide) ?_
  exact l_X10_breaks_2 (fun he74 r hf => by
    refine ev_iconst i_X10_breaks_74 lt_i_m1 ?_
    cases hf
    exact ev_iiret i_X10_breaks_75 rfl) fuel h (0 : Int32) _ hf
def f_X10_isKeptOne (h : MH) (a0 : Nat) (x1 : Int32) : Option (Int32 × MH) := gK h a0 10 ((f_X10_breaks h a0 x1 (0 : Int32)).bind fun r3 => (if r3.1 = (-1 : Int32) then ((f_X10_all r3.2 a0).bind fun v13 => (f_X10_breaks r3.2 a0 x1 v13).bind fun r16 => (if r16.1 = (-1 : Int32) then (some ((1 : Int32), r16.2)) else (some ((0 : Int32), r16.2)))) else (some ((0 : Int32), r3.2))))
set_option maxRecDepth 20000 in
theorem e_X10_isKeptOne {G : GG} {h : MH} {a0 : Nat} {x1 : Int32} {r : (Int32 × MH)} (hf : f_X10_isKeptOne h a0 x1 = some r) : Ev G 7 M_X10_isKeptOne 0 (ent M_X10_isKeptOne [.ref a0, .int x1]) [] h (some (.int r.1)) r.2 := by
  unfold f_X10_isKeptOne at hf
  show Ev G 7 M_X10_isKeptOne 0 [some (.ref a0), some (.int x1)] [] h (some (.int r.1)) r.2
  obtain ⟨-, hf⟩ := gK_of hf
  refine ev_aload_n i_X10_isKeptOne_0 rfl ?_
  refine ev_iload_n i_X10_isKeptOne_1 rfl ?_
  refine ev_iconst i_X10_isKeptOne_2 lt_i_0 ?_
  obtain ⟨r3, e3, hf⟩ := ob hf
  refine ev_cV_i i_X10_isKeptOne_3 lk_X10_isKeptOne_151 [.int x1, .int (0 : Int32)] rfl rfl (by decide) (gK_of e3).1.1 (gK_of e3).1.2 (Nat.le_of_ble_eq_true rfl) (by decide) (e_X10_breaks e3) ?_
  refine ev_iconst i_X10_isKeptOne_6 lt_i_m1 ?_
  refine ev_icmp_ne (tg := 27) i_X10_isKeptOne_7 (by decide) (fun c7 => ?_) (fun c7 => ?_)
  · rw [if_neg c7] at hf
    refine ev_iconst i_X10_isKeptOne_27 lt_i_0 ?_
    cases hf
    exact ev_zret i_X10_isKeptOne_28 rfl (by decide)
  · rw [if_pos c7] at hf
    refine ev_aload_n i_X10_isKeptOne_10 rfl ?_
    refine ev_iload_n i_X10_isKeptOne_11 rfl ?_
    refine ev_aload_n i_X10_isKeptOne_12 rfl ?_
    obtain ⟨v13, e13, hf⟩ := ob hf
    refine ev_cV_i i_X10_isKeptOne_13 lk_X10_isKeptOne_131 [] rfl rfl (by decide) (gK_of e13).1.1 (gK_of e13).1.2 (Nat.le_of_ble_eq_true rfl) (by decide) (e_X10_all e13) ?_
    obtain ⟨r16, e16, hf⟩ := ob hf
    refine ev_cV_i i_X10_isKeptOne_16 lk_X10_isKeptOne_151 [.int x1, .int v13] rfl rfl (by decide) (gK_of e16).1.1 (gK_of e16).1.2 (Nat.le_of_ble_eq_true rfl) (by decide) (e_X10_breaks e16) ?_
    refine ev_iconst i_X10_isKeptOne_19 lt_i_m1 ?_
    refine ev_icmp_ne (tg := 27) i_X10_isKeptOne_20 (by decide) (fun c20 => ?_) (fun c20 => ?_)
    · rw [if_neg c20] at hf
      refine ev_iconst i_X10_isKeptOne_27 lt_i_0 ?_
      cases hf
      exact ev_zret i_X10_isKeptOne_28 rfl (by decide)
    · rw [if_pos c20] at hf
      refine ev_iconst i_X10_isKeptOne_23 lt_i_1 ?_
      refine ev_goto (tg := 28) i_X10_isKeptOne_24 (by decide) ?_
      cases hf
      exact ev_zret i_X10_isKeptOne_28 rfl (by decide)

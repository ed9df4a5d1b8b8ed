/-! ===== methods as functions ===== -/
def f_X9_init (h : MH) (a0 : Nat) : Option MH := (f_X1_init (mm_no h 1) (mm_N h)).bind fun h9 => (pR h9 a0 9 0 (mm_N h)).bind fun h12 => (gR (mm_no h12 0) a0 9 0).bind fun b21 => (f_X0_init (mm_no h12 0) (mm_N h12) b21).bind fun h24 => (pR h24 a0 9 1 (mm_N h12)).bind fun h27 => (f_X3_init (mm_no h27 3) (mm_N h27)).bind fun h35 => (pR h35 a0 9 2 (mm_N h27)).bind fun h38 => (gR (mm_no h38 4) a0 9 0).bind fun b47 => (gR (mm_no h38 4) a0 9 1).bind fun b51 => (f_X4_init (mm_no h38 4) (mm_N h38) b47 b51).bind fun h54 => (pR h54 a0 9 3 (mm_N h38)).bind fun h57 => (gR (mm_no h57 6) a0 9 0).bind fun b66 => (gR (mm_no h57 6) a0 9 1).bind fun b70 => (gR (mm_no h57 6) a0 9 2).bind fun b74 => (f_X6_init (mm_no h57 6) (mm_N h57) b66 b70 b74).bind fun h77 => (pR h77 a0 9 4 (mm_N h57)).bind fun h80 => (f_X8_init (mm_no h80 8) (mm_N h80)).bind fun h88 => (pR h88 a0 9 5 (mm_N h80)).bind fun h91 => some h91
set_option maxRecDepth 20000 in
theorem e_X9_init {G : GG} {h : MH} {a0 : Nat} {r : MH} (hf : f_X9_init h a0 = some r) : Ev G 4 M_X9_init 0 (ent M_X9_init [.ref a0]) [] h none r := by
  unfold f_X9_init at hf
  show Ev G 4 M_X9_init 0 [some (.ref a0)] [] h none r
  refine ev_aload_n i_X9_init_0 rfl ?_
  refine ev_objI i_X9_init_1 ml_X9_1 go_1 go_2 (Nat.le_of_ble_eq_true rfl) (by decide) ?_
  refine ev_aload_n i_X9_init_4 rfl ?_
  refine ev_new i_X9_init_5 nc_X9_7 ?_
  refine ev_dup i_X9_init_8 ?_
  obtain ⟨h9, e9, hf⟩ := ob hf
  refine ev_cI_v i_X9_init_9 lk_X9_init_9 [] rfl rfl (by decide) (Nat.le_of_ble_eq_true rfl) (by decide) (e_X1_init e9) ?_
  obtain ⟨h12, e12, hf⟩ := ob hf
  refine ev_pR i_X9_init_12 fp_X9_init_10 rfl e12 ?_
  refine ev_aload_n i_X9_init_15 rfl ?_
  refine ev_new i_X9_init_16 nc_X9_16 ?_
  refine ev_dup i_X9_init_19 ?_
  refine ev_aload_n i_X9_init_20 rfl ?_
  obtain ⟨b21, e21, hf⟩ := ob hf
  refine ev_gR i_X9_init_21 fl_X9_10 rfl e21 ?_
  obtain ⟨h24, e24, hf⟩ := ob hf
  refine ev_cI_v i_X9_init_24 lk_X9_init_18 [.ref b21] rfl rfl (by decide) (Nat.le_of_ble_eq_true rfl) (by decide) (e_X0_init e24) ?_
  obtain ⟨h27, e27, hf⟩ := ob hf
  refine ev_pR i_X9_init_27 fp_X9_init_21 rfl e27 ?_
  refine ev_aload_n i_X9_init_30 rfl ?_
  refine ev_new i_X9_init_31 nc_X9_25 ?_
  refine ev_dup i_X9_init_34 ?_
  obtain ⟨h35, e35, hf⟩ := ob hf
  refine ev_cI_v i_X9_init_35 lk_X9_init_27 [] rfl rfl (by decide) (Nat.le_of_ble_eq_true rfl) (by decide) (e_X3_init e35) ?_
  obtain ⟨h38, e38, hf⟩ := ob hf
  refine ev_pR i_X9_init_38 fp_X9_init_28 rfl e38 ?_
  refine ev_aload_n i_X9_init_41 rfl ?_
  refine ev_new i_X9_init_42 nc_X9_32 ?_
  refine ev_dup i_X9_init_45 ?_
  refine ev_aload_n i_X9_init_46 rfl ?_
  obtain ⟨b47, e47, hf⟩ := ob hf
  refine ev_gR i_X9_init_47 fl_X9_10 rfl e47 ?_
  refine ev_aload_n i_X9_init_50 rfl ?_
  obtain ⟨b51, e51, hf⟩ := ob hf
  refine ev_gR i_X9_init_51 fl_X9_21 rfl e51 ?_
  obtain ⟨h54, e54, hf⟩ := ob hf
  refine ev_cI_v i_X9_init_54 lk_X9_init_34 [.ref b47, .ref b51] rfl rfl (by decide) (Nat.le_of_ble_eq_true rfl) (by decide) (e_X4_init e54) ?_
  obtain ⟨h57, e57, hf⟩ := ob hf
  refine ev_pR i_X9_init_57 fp_X9_init_37 rfl e57 ?_
  refine ev_aload_n i_X9_init_60 rfl ?_
  refine ev_new i_X9_init_61 nc_X9_41 ?_
  refine ev_dup i_X9_init_64 ?_
  refine ev_aload_n i_X9_init_65 rfl ?_
  obtain ⟨b66, e66, hf⟩ := ob hf
  refine ev_gR i_X9_init_66 fl_X9_10 rfl e66 ?_
  refine ev_aload_n i_X9_init_69 rfl ?_
  obtain ⟨b70, e70, hf⟩ := ob hf
  refine ev_gR i_X9_init_70 fl_X9_21 rfl e70 ?_
  refine ev_aload_n i_X9_init_73 rfl ?_
  obtain ⟨b74, e74, hf⟩ := ob hf
  refine ev_gR i_X9_init_74 fl_X9_28 rfl e74 ?_
  obtain ⟨h77, e77, hf⟩ := ob hf
  refine ev_cI_v i_X9_init_77 lk_X9_init_43 [.ref b66, .ref b70, .ref b74] rfl rfl (by decide) (Nat.le_of_ble_eq_true rfl) (by decide) (e_X6_init e77) ?_
  obtain ⟨h80, e80, hf⟩ := ob hf
  refine ev_pR i_X9_init_80 fp_X9_init_46 rfl e80 ?_
  refine ev_aload_n i_X9_init_83 rfl ?_
  refine ev_new i_X9_init_84 nc_X9_50 ?_
  refine ev_dup i_X9_init_87 ?_
  obtain ⟨h88, e88, hf⟩ := ob hf
  refine ev_cI_v i_X9_init_88 lk_X9_init_52 [] rfl rfl (by decide) (Nat.le_of_ble_eq_true rfl) (by decide) (e_X8_init e88) ?_
  obtain ⟨h91, e91, hf⟩ := ob hf
  refine ev_pR i_X9_init_91 fp_X9_init_53 rfl e91 ?_
  cases hf
  exact ev_vret i_X9_init_94 rfl
def f_X9_startAfresh (h : MH) (a0 : Nat) : Option MH := gK h a0 9 ((gR h a0 9 0).bind fun b1 => (f_X1_forget h b1).bind fun h4 => (gR h4 a0 9 1).bind fun b8 => (f_X0_forget h4 b8).bind fun h11 => (gR h11 a0 9 2).bind fun b15 => (f_X3_clear h11 b15).bind fun h18 => (gR h18 a0 9 4).bind fun b22 => (f_X6_stop h18 b22).bind fun h25 => some h25)
set_option maxRecDepth 20000 in
theorem e_X9_startAfresh {G : GG} {h : MH} {a0 : Nat} {r : MH} (hf : f_X9_startAfresh h a0 = some r) : Ev G 1 M_X9_startAfresh 0 (ent M_X9_startAfresh [.ref a0]) [] h none r := by
  unfold f_X9_startAfresh at hf
  show Ev G 1 M_X9_startAfresh 0 [some (.ref a0)] [] h none r
  obtain ⟨-, hf⟩ := gK_of hf
  refine ev_aload_n i_X9_startAfresh_0 rfl ?_
  obtain ⟨b1, e1, hf⟩ := ob hf
  refine ev_gR i_X9_startAfresh_1 fl_X9_10 rfl e1 ?_
  obtain ⟨h4, e4, hf⟩ := ob hf
  refine ev_cV_v i_X9_startAfresh_4 lk_X9_startAfresh_269 [] rfl rfl (by decide) (gK_of e4).1.1 (gK_of e4).1.2 (Nat.le_of_ble_eq_true rfl) (by decide) (e_X1_forget e4) ?_
  refine ev_aload_n i_X9_startAfresh_7 rfl ?_
  obtain ⟨b8, e8, hf⟩ := ob hf
  refine ev_gR i_X9_startAfresh_8 fl_X9_21 rfl e8 ?_
  obtain ⟨h11, e11, hf⟩ := ob hf
  refine ev_cV_v i_X9_startAfresh_11 lk_X9_startAfresh_272 [] rfl rfl (by decide) (gK_of e11).1.1 (gK_of e11).1.2 (Nat.le_of_ble_eq_true rfl) (by decide) (e_X0_forget e11) ?_
  refine ev_aload_n i_X9_startAfresh_14 rfl ?_
  obtain ⟨b15, e15, hf⟩ := ob hf
  refine ev_gR i_X9_startAfresh_15 fl_X9_28 rfl e15 ?_
  obtain ⟨h18, e18, hf⟩ := ob hf
  refine ev_cV_v i_X9_startAfresh_18 lk_X9_startAfresh_215 [] rfl rfl (by decide) (gK_of e18).1.1 (gK_of e18).1.2 (Nat.le_of_ble_eq_true rfl) (by decide) (e_X3_clear e18) ?_
  refine ev_aload_n i_X9_startAfresh_21 rfl ?_
  obtain ⟨b22, e22, hf⟩ := ob hf
  refine ev_gR i_X9_startAfresh_22 fl_X9_46 rfl e22 ?_
  obtain ⟨h25, e25, hf⟩ := ob hf
  refine ev_cV_v i_X9_startAfresh_25 lk_X9_startAfresh_204 [] rfl rfl (by decide) (gK_of e25).1.1 (gK_of e25).1.2 (Nat.le_of_ble_eq_true rfl) (by decide) (e_X6_stop e25) ?_
  cases hf
  exact ev_vret i_X9_startAfresh_28 rfl
def f_X9_net (h : MH) (a0 : Nat) (x1 : Int32) : Option (Int32 × MH) := gK h a0 9 ((if x1 < (1 : Int32) then (some ((0 : Int32), h)) else ((if x1 ≤ (7 : Int32) then ((gR h a0 9 0).bind fun b14 => (f_X1_reset h b14 x1).bind fun h18 => (gR h18 a0 9 1).bind fun b22 => (f_X0_dropWants h18 b22).bind fun h25 => (f_X9_startAfresh h25 a0).bind fun h29 => some ((1 : Int32), h29)) else (some ((0 : Int32), h))))))
set_option maxRecDepth 20000 in
theorem e_X9_net {G : GG} {h : MH} {a0 : Nat} {x1 : Int32} {r : (Int32 × MH)} (hf : f_X9_net h a0 x1 = some r) : Ev G 4 M_X9_net 0 (ent M_X9_net [.ref a0, .int x1]) [] h (some (.int r.1)) r.2 := by
  unfold f_X9_net at hf
  show Ev G 4 M_X9_net 0 [some (.ref a0), some (.int x1)] [] h (some (.int r.1)) r.2
  obtain ⟨-, hf⟩ := gK_of hf
  refine ev_iload_n i_X9_net_0 rfl ?_
  refine ev_iconst i_X9_net_1 lt_i_1 ?_
  refine ev_icmp_lt (tg := 11) i_X9_net_2 (by decide) (fun c2 => ?_) (fun c2 => ?_)
  · rw [if_pos c2] at hf
    refine ev_iconst i_X9_net_11 lt_i_0 ?_
    cases hf
    exact ev_zret i_X9_net_12 rfl (by decide)
  · rw [if_neg c2] at hf
    refine ev_iload_n i_X9_net_5 rfl ?_
    refine ev_bipush i_X9_net_6 lt_b_7 ?_
    refine ev_icmp_le (tg := 13) i_X9_net_8 (by decide) (fun c8 => ?_) (fun c8 => ?_)
    · rw [if_pos c8] at hf
      refine ev_aload_n i_X9_net_13 rfl ?_
      obtain ⟨b14, e14, hf⟩ := ob hf
      refine ev_gR i_X9_net_14 fl_X9_10 rfl e14 ?_
      refine ev_iload_n i_X9_net_17 rfl ?_
      obtain ⟨h18, e18, hf⟩ := ob hf
      refine ev_cV_v i_X9_net_18 lk_X9_net_57 [.int x1] rfl rfl (by decide) (gK_of e18).1.1 (gK_of e18).1.2 (Nat.le_of_ble_eq_true rfl) (by decide) (e_X1_reset e18) ?_
      refine ev_aload_n i_X9_net_21 rfl ?_
      obtain ⟨b22, e22, hf⟩ := ob hf
      refine ev_gR i_X9_net_22 fl_X9_21 rfl e22 ?_
      obtain ⟨h25, e25, hf⟩ := ob hf
      refine ev_cV_v i_X9_net_25 lk_X9_net_61 [] rfl rfl (by decide) (gK_of e25).1.1 (gK_of e25).1.2 (Nat.le_of_ble_eq_true rfl) (by decide) (e_X0_dropWants e25) ?_
      refine ev_aload_n i_X9_net_28 rfl ?_
      obtain ⟨h29, e29, hf⟩ := ob hf
      refine ev_cV_v i_X9_net_29 lk_X9_net_64 [] rfl rfl (by decide) (gK_of e29).1.1 (gK_of e29).1.2 (Nat.le_of_ble_eq_true rfl) (by decide) (e_X9_startAfresh e29) ?_
      refine ev_iconst i_X9_net_32 lt_i_1 ?_
      cases hf
      exact ev_zret i_X9_net_33 rfl (by decide)
    · rw [if_neg c8] at hf
      refine ev_iconst i_X9_net_11 lt_i_0 ?_
      cases hf
      exact ev_zret i_X9_net_12 rfl (by decide)
def f_X9_link (h : MH) (a0 : Nat) (x1 : Int32) (x2 : Int32) (x3 : Int32) (x4 : Int32) : Option (Int32 × MH) := gK h a0 9 ((if x1 = x3 then (some ((0 : Int32), h)) else ((gR h a0 9 0).bind fun b6 => (f_X1_isFree h b6 x1 x2).bind fun v11 => (if v11 = 0 then (some ((0 : Int32), h)) else ((gR h a0 9 0).bind fun b18 => (f_X1_isFree h b18 x3 x4).bind fun v24 => (if v24 = 0 then (some ((0 : Int32), h)) else ((gR h a0 9 0).bind fun b33 => (f_X1_join h b33 x1 x2 x3 x4).bind fun h41 => (f_X9_startAfresh h41 a0).bind fun h45 => some ((1 : Int32), h45))))))))
set_option maxRecDepth 20000 in
theorem e_X9_link {G : GG} {h : MH} {a0 : Nat} {x1 : Int32} {x2 : Int32} {x3 : Int32} {x4 : Int32} {r : (Int32 × MH)} (hf : f_X9_link h a0 x1 x2 x3 x4 = some r) : Ev G 3 M_X9_link 0 (ent M_X9_link [.ref a0, .int x1, .int x2, .int x3, .int x4]) [] h (some (.int r.1)) r.2 := by
  unfold f_X9_link at hf
  show Ev G 3 M_X9_link 0 [some (.ref a0), some (.int x1), some (.int x2), some (.int x3), some (.int x4)] [] h (some (.int r.1)) r.2
  obtain ⟨-, hf⟩ := gK_of hf
  refine ev_iload_n i_X9_link_0 rfl ?_
  refine ev_iload_n i_X9_link_1 rfl ?_
  refine ev_icmp_eq (tg := 30) i_X9_link_2 (by decide) (fun c2 => ?_) (fun c2 => ?_)
  · rw [if_pos c2] at hf
    refine ev_iconst i_X9_link_30 lt_i_0 ?_
    cases hf
    exact ev_zret i_X9_link_31 rfl (by decide)
  · rw [if_neg c2] at hf
    refine ev_aload_n i_X9_link_5 rfl ?_
    obtain ⟨b6, e6, hf⟩ := ob hf
    refine ev_gR i_X9_link_6 fl_X9_10 rfl e6 ?_
    refine ev_iload_n i_X9_link_9 rfl ?_
    refine ev_iload_n i_X9_link_10 rfl ?_
    obtain ⟨v11, e11, hf⟩ := ob hf
    refine ev_cV_i i_X9_link_11 lk_X9_link_67 [.int x1, .int x2] rfl rfl (by decide) (gK_of e11).1.1 (gK_of e11).1.2 (Nat.le_of_ble_eq_true rfl) (by decide) (e_X1_isFree e11) ?_
    refine ev_if_eq (tg := 30) i_X9_link_14 (by decide) (fun c14 => ?_) (fun c14 => ?_)
    · rw [if_pos c14] at hf
      refine ev_iconst i_X9_link_30 lt_i_0 ?_
      cases hf
      exact ev_zret i_X9_link_31 rfl (by decide)
    · rw [if_neg c14] at hf
      refine ev_aload_n i_X9_link_17 rfl ?_
      obtain ⟨b18, e18, hf⟩ := ob hf
      refine ev_gR i_X9_link_18 fl_X9_10 rfl e18 ?_
      refine ev_iload_n i_X9_link_21 rfl ?_
      refine ev_iload i_X9_link_22 rfl ?_
      obtain ⟨v24, e24, hf⟩ := ob hf
      refine ev_cV_i i_X9_link_24 lk_X9_link_67 [.int x3, .int x4] rfl rfl (by decide) (gK_of e24).1.1 (gK_of e24).1.2 (Nat.le_of_ble_eq_true rfl) (by decide) (e_X1_isFree e24) ?_
      refine ev_if_ne (tg := 32) i_X9_link_27 (by decide) (fun c27 => ?_) (fun c27 => ?_)
      · rw [if_neg c27] at hf
        refine ev_aload_n i_X9_link_32 rfl ?_
        obtain ⟨b33, e33, hf⟩ := ob hf
        refine ev_gR i_X9_link_33 fl_X9_10 rfl e33 ?_
        refine ev_iload_n i_X9_link_36 rfl ?_
        refine ev_iload_n i_X9_link_37 rfl ?_
        refine ev_iload_n i_X9_link_38 rfl ?_
        refine ev_iload i_X9_link_39 rfl ?_
        obtain ⟨h41, e41, hf⟩ := ob hf
        refine ev_cV_v i_X9_link_41 lk_X9_link_71 [.int x1, .int x2, .int x3, .int x4] rfl rfl (by decide) (gK_of e41).1.1 (gK_of e41).1.2 (Nat.le_of_ble_eq_true rfl) (by decide) (e_X1_join e41) ?_
        refine ev_aload_n i_X9_link_44 rfl ?_
        obtain ⟨h45, e45, hf⟩ := ob hf
        refine ev_cV_v i_X9_link_45 lk_X9_link_64 [] rfl rfl (by decide) (gK_of e45).1.1 (gK_of e45).1.2 (Nat.le_of_ble_eq_true rfl) (by decide) (e_X9_startAfresh e45) ?_
        refine ev_iconst i_X9_link_48 lt_i_1 ?_
        cases hf
        exact ev_zret i_X9_link_49 rfl (by decide)
      · rw [if_pos c27] at hf
        refine ev_iconst i_X9_link_30 lt_i_0 ?_
        cases hf
        exact ev_zret i_X9_link_31 rfl (by decide)
def f_X9_host (h : MH) (a0 : Nat) (x1 : Int32) (x2 : Int32) : Option (Int32 × MH) := gK h a0 9 ((gR h a0 9 0).bind fun b1 => (f_X1_isFree h b1 x1 x2).bind fun v6 => (if v6 = 0 then (some ((-1 : Int32), h)) else ((gR h a0 9 0).bind fun b13 => (f_X1_hostCount h b13).bind fun v16 => (if v16 < (6 : Int32) then ((gR h a0 9 0).bind fun b27 => (f_X1_addHost h b27 x1 x2).bind fun r32 => (f_X9_startAfresh r32.2 a0).bind fun h37 => some (r32.1, h37)) else (some ((-1 : Int32), h))))))
set_option maxRecDepth 20000 in
theorem e_X9_host {G : GG} {h : MH} {a0 : Nat} {x1 : Int32} {x2 : Int32} {r : (Int32 × MH)} (hf : f_X9_host h a0 x1 x2 = some r) : Ev G 3 M_X9_host 0 (ent M_X9_host [.ref a0, .int x1, .int x2]) [] h (some (.int r.1)) r.2 := by
  unfold f_X9_host at hf
  show Ev G 3 M_X9_host 0 [some (.ref a0), some (.int x1), some (.int x2), none] [] h (some (.int r.1)) r.2
  obtain ⟨-, hf⟩ := gK_of hf
  refine ev_aload_n i_X9_host_0 rfl ?_
  obtain ⟨b1, e1, hf⟩ := ob hf
  refine ev_gR i_X9_host_1 fl_X9_10 rfl e1 ?_
  refine ev_iload_n i_X9_host_4 rfl ?_
  refine ev_iload_n i_X9_host_5 rfl ?_
  obtain ⟨v6, e6, hf⟩ := ob hf
  refine ev_cV_i i_X9_host_6 lk_X9_host_67 [.int x1, .int x2] rfl rfl (by decide) (gK_of e6).1.1 (gK_of e6).1.2 (Nat.le_of_ble_eq_true rfl) (by decide) (e_X1_isFree e6) ?_
  refine ev_if_eq (tg := 24) i_X9_host_9 (by decide) (fun c9 => ?_) (fun c9 => ?_)
  · rw [if_pos c9] at hf
    refine ev_iconst i_X9_host_24 lt_i_m1 ?_
    cases hf
    exact ev_iiret i_X9_host_25 rfl
  · rw [if_neg c9] at hf
    refine ev_aload_n i_X9_host_12 rfl ?_
    obtain ⟨b13, e13, hf⟩ := ob hf
    refine ev_gR i_X9_host_13 fl_X9_10 rfl e13 ?_
    obtain ⟨v16, e16, hf⟩ := ob hf
    refine ev_cV_i i_X9_host_16 lk_X9_host_75 [] rfl rfl (by decide) (gK_of e16).1.1 (gK_of e16).1.2 (Nat.le_of_ble_eq_true rfl) (by decide) (e_X1_hostCount e16) ?_
    refine ev_bipush i_X9_host_19 lt_b_6 ?_
    refine ev_icmp_lt (tg := 26) i_X9_host_21 (by decide) (fun c21 => ?_) (fun c21 => ?_)
    · rw [if_pos c21] at hf
      refine ev_aload_n i_X9_host_26 rfl ?_
      obtain ⟨b27, e27, hf⟩ := ob hf
      refine ev_gR i_X9_host_27 fl_X9_10 rfl e27 ?_
      refine ev_iload_n i_X9_host_30 rfl ?_
      refine ev_iload_n i_X9_host_31 rfl ?_
      obtain ⟨r32, e32, hf⟩ := ob hf
      refine ev_cV_i i_X9_host_32 lk_X9_host_79 [.int x1, .int x2] rfl rfl (by decide) (gK_of e32).1.1 (gK_of e32).1.2 (Nat.le_of_ble_eq_true rfl) (by decide) (e_X1_addHost e32) ?_
      refine ev_istore_n i_X9_host_35 (by decide) ?_
      refine ev_aload_n i_X9_host_36 rfl ?_
      obtain ⟨h37, e37, hf⟩ := ob hf
      refine ev_cV_v i_X9_host_37 lk_X9_host_64 [] rfl rfl (by decide) (gK_of e37).1.1 (gK_of e37).1.2 (Nat.le_of_ble_eq_true rfl) (by decide) (e_X9_startAfresh e37) ?_
      refine ev_iload_n i_X9_host_40 rfl ?_
      cases hf
      exact ev_iiret i_X9_host_41 rfl
    · rw [if_neg c21] at hf
      refine ev_iconst i_X9_host_24 lt_i_m1 ?_
      cases hf
      exact ev_iiret i_X9_host_25 rfl
def f_X9_unplug_j67 (h : MH) (a0 : Nat) (x1 : Int32) (x2 : Int32) : Option (Int32 × MH) := (gR h a0 9 0).bind fun b68 => (f_X1_clear h b68 x1 x2).bind fun h73 => (f_X9_startAfresh h73 a0).bind fun h77 => some ((1 : Int32), h77)
set_option maxRecDepth 20000 in
theorem j_X9_unplug_67 {G : GG} {h : MH} {a0 : Nat} {x1 : Int32} {x2 : Int32} {r : (Int32 × MH)} (hf : f_X9_unplug_j67 h a0 x1 x2 = some r) : Ev G 3 M_X9_unplug 67 [some (.ref a0), some (.int x1), some (.int x2), none] [] h (some (.int r.1)) r.2 := by
  unfold f_X9_unplug_j67 at hf
  refine ev_aload_n i_X9_unplug_67 rfl ?_
  obtain ⟨b68, e68, hf⟩ := ob hf
  refine ev_gR i_X9_unplug_68 fl_X9_10 rfl e68 ?_
  refine ev_iload_n i_X9_unplug_71 rfl ?_
  refine ev_iload_n i_X9_unplug_72 rfl ?_
  obtain ⟨h73, e73, hf⟩ := ob hf
  refine ev_cV_v i_X9_unplug_73 lk_X9_unplug_93 [.int x1, .int x2] rfl rfl (by decide) (gK_of e73).1.1 (gK_of e73).1.2 (Nat.le_of_ble_eq_true rfl) (by decide) (e_X1_clear e73) ?_
  refine ev_aload_n i_X9_unplug_76 rfl ?_
  obtain ⟨h77, e77, hf⟩ := ob hf
  refine ev_cV_v i_X9_unplug_77 lk_X9_unplug_64 [] rfl rfl (by decide) (gK_of e77).1.1 (gK_of e77).1.2 (Nat.le_of_ble_eq_true rfl) (by decide) (e_X9_startAfresh e77) ?_
  refine ev_iconst i_X9_unplug_80 lt_i_1 ?_
  cases hf
  exact ev_zret i_X9_unplug_81 rfl (by decide)
def f_X9_unplug (h : MH) (a0 : Nat) (x1 : Int32) (x2 : Int32) : Option (Int32 × MH) := gK h a0 9 ((gR h a0 9 0).bind fun b1 => (f_X1_hasPort h b1 x1 x2).bind fun v6 => (if v6 = 0 then (some ((0 : Int32), h)) else ((gR h a0 9 0).bind fun b13 => (f_X1_isFree h b13 x1 x2).bind fun v18 => (if v18 = 0 then ((gR h a0 9 0).bind fun b27 => (f_X1_hostAt h b27 x1 x2).bind fun v32 => (if v32 = (-1 : Int32) then (f_X9_unplug_j67 h a0 x1 x2) else ((gR h a0 9 0).bind fun b43 => (f_X1_hostCount h b43).bind fun v46 => (if v32 = (v46 - (1 : Int32)) then ((gR h a0 9 1).bind fun b55 => (f_X0_needsHost h b55 v32).bind fun v59 => (if v59 = 0 then (f_X9_unplug_j67 h a0 x1 x2) else (some ((0 : Int32), h)))) else (some ((0 : Int32), h)))))) else (some ((0 : Int32), h))))))
set_option maxRecDepth 20000 in
theorem e_X9_unplug {G : GG} {h : MH} {a0 : Nat} {x1 : Int32} {x2 : Int32} {r : (Int32 × MH)} (hf : f_X9_unplug h a0 x1 x2 = some r) : Ev G 3 M_X9_unplug 0 (ent M_X9_unplug [.ref a0, .int x1, .int x2]) [] h (some (.int r.1)) r.2 := by
  unfold f_X9_unplug at hf
  show Ev G 3 M_X9_unplug 0 [some (.ref a0), some (.int x1), some (.int x2), none] [] h (some (.int r.1)) r.2
  obtain ⟨-, hf⟩ := gK_of hf
  refine ev_aload_n i_X9_unplug_0 rfl ?_
  obtain ⟨b1, e1, hf⟩ := ob hf
  refine ev_gR i_X9_unplug_1 fl_X9_10 rfl e1 ?_
  refine ev_iload_n i_X9_unplug_4 rfl ?_
  refine ev_iload_n i_X9_unplug_5 rfl ?_
  obtain ⟨v6, e6, hf⟩ := ob hf
  refine ev_cV_i i_X9_unplug_6 lk_X9_unplug_83 [.int x1, .int x2] rfl rfl (by decide) (gK_of e6).1.1 (gK_of e6).1.2 (Nat.le_of_ble_eq_true rfl) (by decide) (e_X1_hasPort e6) ?_
  refine ev_if_eq (tg := 24) i_X9_unplug_9 (by decide) (fun c9 => ?_) (fun c9 => ?_)
  · rw [if_pos c9] at hf
    refine ev_iconst i_X9_unplug_24 lt_i_0 ?_
    cases hf
    exact ev_zret i_X9_unplug_25 rfl (by decide)
  · rw [if_neg c9] at hf
    refine ev_aload_n i_X9_unplug_12 rfl ?_
    obtain ⟨b13, e13, hf⟩ := ob hf
    refine ev_gR i_X9_unplug_13 fl_X9_10 rfl e13 ?_
    refine ev_iload_n i_X9_unplug_16 rfl ?_
    refine ev_iload_n i_X9_unplug_17 rfl ?_
    obtain ⟨v18, e18, hf⟩ := ob hf
    refine ev_cV_i i_X9_unplug_18 lk_X9_unplug_67 [.int x1, .int x2] rfl rfl (by decide) (gK_of e18).1.1 (gK_of e18).1.2 (Nat.le_of_ble_eq_true rfl) (by decide) (e_X1_isFree e18) ?_
    refine ev_if_eq (tg := 26) i_X9_unplug_21 (by decide) (fun c21 => ?_) (fun c21 => ?_)
    · rw [if_pos c21] at hf
      refine ev_aload_n i_X9_unplug_26 rfl ?_
      obtain ⟨b27, e27, hf⟩ := ob hf
      refine ev_gR i_X9_unplug_27 fl_X9_10 rfl e27 ?_
      refine ev_iload_n i_X9_unplug_30 rfl ?_
      refine ev_iload_n i_X9_unplug_31 rfl ?_
      obtain ⟨v32, e32, hf⟩ := ob hf
      refine ev_cV_i i_X9_unplug_32 lk_X9_unplug_86 [.int x1, .int x2] rfl rfl (by decide) (gK_of e32).1.1 (gK_of e32).1.2 (Nat.le_of_ble_eq_true rfl) (by decide) (e_X1_hostAt e32) ?_
      refine ev_istore_n i_X9_unplug_35 (by decide) ?_
      refine ev_iload_n i_X9_unplug_36 rfl ?_
      refine ev_iconst i_X9_unplug_37 lt_i_m1 ?_
      refine ev_icmp_eq (tg := 67) i_X9_unplug_38 (by decide) (fun c38 => ?_) (fun c38 => ?_)
      · rw [if_pos c38] at hf
        refine ev_sub (lc2 := [some (.ref a0), some (.int x1), some (.int x2), none]) ⟨Or.inr rfl, Or.inr rfl, Or.inr rfl, Or.inl rfl, trivial⟩ ?_
        exact j_X9_unplug_67 hf
      · rw [if_neg c38] at hf
        refine ev_iload_n i_X9_unplug_41 rfl ?_
        refine ev_aload_n i_X9_unplug_42 rfl ?_
        obtain ⟨b43, e43, hf⟩ := ob hf
        refine ev_gR i_X9_unplug_43 fl_X9_10 rfl e43 ?_
        obtain ⟨v46, e46, hf⟩ := ob hf
        refine ev_cV_i i_X9_unplug_46 lk_X9_unplug_75 [] rfl rfl (by decide) (gK_of e46).1.1 (gK_of e46).1.2 (Nat.le_of_ble_eq_true rfl) (by decide) (e_X1_hostCount e46) ?_
        refine ev_iconst i_X9_unplug_49 lt_i_1 ?_
        refine ev_isub i_X9_unplug_50 ?_
        refine ev_icmp_ne (tg := 65) i_X9_unplug_51 (by decide) (fun c51 => ?_) (fun c51 => ?_)
        · rw [if_neg c51] at hf
          refine ev_iconst i_X9_unplug_65 lt_i_0 ?_
          cases hf
          exact ev_zret i_X9_unplug_66 rfl (by decide)
        · rw [if_pos c51] at hf
          refine ev_aload_n i_X9_unplug_54 rfl ?_
          obtain ⟨b55, e55, hf⟩ := ob hf
          refine ev_gR i_X9_unplug_55 fl_X9_21 rfl e55 ?_
          refine ev_iload_n i_X9_unplug_58 rfl ?_
          obtain ⟨v59, e59, hf⟩ := ob hf
          refine ev_cV_i i_X9_unplug_59 lk_X9_unplug_89 [.int v32] rfl rfl (by decide) (gK_of e59).1.1 (gK_of e59).1.2 (Nat.le_of_ble_eq_true rfl) (by decide) (e_X0_needsHost e59) ?_
          refine ev_if_eq (tg := 67) i_X9_unplug_62 (by decide) (fun c62 => ?_) (fun c62 => ?_)
          · rw [if_pos c62] at hf
            refine ev_sub (lc2 := [some (.ref a0), some (.int x1), some (.int x2), none]) ⟨Or.inr rfl, Or.inr rfl, Or.inr rfl, Or.inl rfl, trivial⟩ ?_
            exact j_X9_unplug_67 hf
          · rw [if_neg c62] at hf
            refine ev_iconst i_X9_unplug_65 lt_i_0 ?_
            cases hf
            exact ev_zret i_X9_unplug_66 rfl (by decide)
    · rw [if_neg c21] at hf
      refine ev_iconst i_X9_unplug_24 lt_i_0 ?_
      cases hf
      exact ev_zret i_X9_unplug_25 rfl (by decide)
def f_X9_isSpan (h : MH) (x0 : Int32) (x1 : Int32) : Option Int32 := (f_X9_isMark h x0).bind fun v1 => (if v1 = 0 then (some (0 : Int32)) else ((f_X9_isMark h x1).bind fun v8 => (if v8 = 0 then (some (0 : Int32)) else (some (1 : Int32)))))
set_option maxRecDepth 20000 in
theorem e_X9_isSpan {G : GG} {h : MH} {x0 : Int32} {x1 : Int32} {r : Int32} (hf : f_X9_isSpan h x0 x1 = some r) : Ev G 1 M_X9_isSpan 0 (ent M_X9_isSpan [.int x0, .int x1]) [] h (some (.int r)) h := by
  unfold f_X9_isSpan at hf
  show Ev G 1 M_X9_isSpan 0 [some (.int x0), some (.int x1)] [] h (some (.int r)) h
  refine ev_iload_n i_X9_isSpan_0 rfl ?_
  obtain ⟨v1, e1, hf⟩ := ob hf
  refine ev_cS_i i_X9_isSpan_1 lk_X9_isSpan_172 [.int x0] rfl rfl (by decide) (Nat.le_of_ble_eq_true rfl) (by decide) (e_X9_isMark e1) ?_
  refine ev_if_eq (tg := 18) i_X9_isSpan_4 (by decide) (fun c4 => ?_) (fun c4 => ?_)
  · rw [if_pos c4] at hf
    refine ev_iconst i_X9_isSpan_18 lt_i_0 ?_
    cases hf
    exact ev_zret i_X9_isSpan_19 rfl (by decide)
  · rw [if_neg c4] at hf
    refine ev_iload_n i_X9_isSpan_7 rfl ?_
    obtain ⟨v8, e8, hf⟩ := ob hf
    refine ev_cS_i i_X9_isSpan_8 lk_X9_isSpan_172 [.int x1] rfl rfl (by decide) (Nat.le_of_ble_eq_true rfl) (by decide) (e_X9_isMark e8) ?_
    refine ev_if_eq (tg := 18) i_X9_isSpan_11 (by decide) (fun c11 => ?_) (fun c11 => ?_)
    · rw [if_pos c11] at hf
      refine ev_iconst i_X9_isSpan_18 lt_i_0 ?_
      cases hf
      exact ev_zret i_X9_isSpan_19 rfl (by decide)
    · rw [if_neg c11] at hf
      refine ev_iconst i_X9_isSpan_14 lt_i_1 ?_
      refine ev_goto (tg := 19) i_X9_isSpan_15 (by decide) ?_
      cases hf
      exact ev_zret i_X9_isSpan_19 rfl (by decide)
def f_X9_rule (h : MH) (a0 : Nat) (x1 : Int32) (x2 : Int32) (x3 : Int32) (x4 : Int32) (x5 : Int32) (x6 : Int32) : Option (Int32 × MH) := gK h a0 9 ((gR h a0 9 0).bind fun b1 => (f_X1_rowOf h b1 x1 x2).bind fun o6 => (match o6 with | none => (some ((-1 : Int32), h)) | some q6 => ((f_X5_size h q6).bind fun v18 => (if (6 : Int32) ≤ v18 then (some ((-1 : Int32), h)) else ((f_X9_isSpan h x3 x4).bind fun v29 => (if v29 = 0 then (some ((-1 : Int32), h)) else ((if x5 < 0 then (some ((-1 : Int32), h)) else ((if (10 : Int32) ≤ x5 then (some ((-1 : Int32), h)) else ((if x6 < 0 then (some ((-1 : Int32), h)) else ((if x6 ≤ (4 : Int32) then ((f_X5_add h q6 x3 x4 x5 x6).bind fun h69 => (f_X9_startAfresh h69 a0).bind fun h73 => (f_X5_size h73 q6).bind fun v78 => some (v78, h73)) else (some ((-1 : Int32), h))))))))))))))))
set_option maxRecDepth 20000 in
theorem e_X9_rule {G : GG} {h : MH} {a0 : Nat} {x1 : Int32} {x2 : Int32} {x3 : Int32} {x4 : Int32} {x5 : Int32} {x6 : Int32} {r : (Int32 × MH)} (hf : f_X9_rule h a0 x1 x2 x3 x4 x5 x6 = some r) : Ev G 3 M_X9_rule 0 (ent M_X9_rule [.ref a0, .int x1, .int x2, .int x3, .int x4, .int x5, .int x6]) [] h (some (.int r.1)) r.2 := by
  unfold f_X9_rule at hf
  show Ev G 3 M_X9_rule 0 [some (.ref a0), some (.int x1), some (.int x2), some (.int x3), some (.int x4), some (.int x5), some (.int x6), none] [] h (some (.int r.1)) r.2
  obtain ⟨-, hf⟩ := gK_of hf
  refine ev_aload_n i_X9_rule_0 rfl ?_
  obtain ⟨b1, e1, hf⟩ := ob hf
  refine ev_gR i_X9_rule_1 fl_X9_10 rfl e1 ?_
  refine ev_iload_n i_X9_rule_4 rfl ?_
  refine ev_iload_n i_X9_rule_5 rfl ?_
  obtain ⟨o6, e6, hf⟩ := ob hf
  cases o6 with
  | none =>
    dsimp only at hf
    refine ev_cV_r i_X9_rule_6 lk_X9_rule_97 [.int x1, .int x2] rfl rfl (by decide) (gK_of e6).1.1 (gK_of e6).1.2 (Nat.le_of_ble_eq_true rfl) (by decide) (e_X1_rowOf e6) ?_
    refine ev_astoreN i_X9_rule_9 (by decide) ?_
    refine ev_aloadN i_X9_rule_11 rfl ?_
    refine ev_ifnullN (tg := 58) i_X9_rule_13 (by decide) ?_
    refine ev_iconst i_X9_rule_58 lt_i_m1 ?_
    cases hf
    exact ev_iiret i_X9_rule_59 rfl
  | some q6 =>
    dsimp only at hf
    refine ev_cV_r i_X9_rule_6 lk_X9_rule_97 [.int x1, .int x2] rfl rfl (by decide) (gK_of e6).1.1 (gK_of e6).1.2 (Nat.le_of_ble_eq_true rfl) (by decide) (e_X1_rowOf e6) ?_
    refine ev_astore i_X9_rule_9 (by decide) ?_
    refine ev_aload i_X9_rule_11 rfl ?_
    refine ev_ifnull i_X9_rule_13 ?_
    refine ev_aload i_X9_rule_16 rfl ?_
    obtain ⟨v18, e18, hf⟩ := ob hf
    refine ev_cV_i i_X9_rule_18 lk_X9_rule_101 [] rfl rfl (by decide) (gK_of e18).1.1 (gK_of e18).1.2 (Nat.le_of_ble_eq_true rfl) (by decide) (e_X5_size e18) ?_
    refine ev_bipush i_X9_rule_21 lt_b_6 ?_
    refine ev_icmp_ge (tg := 58) i_X9_rule_23 (by decide) (fun c23 => ?_) (fun c23 => ?_)
    · rw [if_pos c23] at hf
      refine ev_iconst i_X9_rule_58 lt_i_m1 ?_
      cases hf
      exact ev_iiret i_X9_rule_59 rfl
    · rw [if_neg c23] at hf
      refine ev_iload_n i_X9_rule_26 rfl ?_
      refine ev_iload i_X9_rule_27 rfl ?_
      obtain ⟨v29, e29, hf⟩ := ob hf
      refine ev_cS_i i_X9_rule_29 lk_X9_rule_106 [.int x3, .int x4] rfl rfl (by decide) (Nat.le_of_ble_eq_true rfl) (by decide) (e_X9_isSpan e29) ?_
      refine ev_if_eq (tg := 58) i_X9_rule_32 (by decide) (fun c32 => ?_) (fun c32 => ?_)
      · rw [if_pos c32] at hf
        refine ev_iconst i_X9_rule_58 lt_i_m1 ?_
        cases hf
        exact ev_iiret i_X9_rule_59 rfl
      · rw [if_neg c32] at hf
        refine ev_iload i_X9_rule_35 rfl ?_
        refine ev_if_lt (tg := 58) i_X9_rule_37 (by decide) (fun c37 => ?_) (fun c37 => ?_)
        · rw [if_pos c37] at hf
          refine ev_iconst i_X9_rule_58 lt_i_m1 ?_
          cases hf
          exact ev_iiret i_X9_rule_59 rfl
        · rw [if_neg c37] at hf
          refine ev_iload i_X9_rule_40 rfl ?_
          refine ev_bipush i_X9_rule_42 lt_b_10 ?_
          refine ev_icmp_ge (tg := 58) i_X9_rule_44 (by decide) (fun c44 => ?_) (fun c44 => ?_)
          · rw [if_pos c44] at hf
            refine ev_iconst i_X9_rule_58 lt_i_m1 ?_
            cases hf
            exact ev_iiret i_X9_rule_59 rfl
          · rw [if_neg c44] at hf
            refine ev_iload i_X9_rule_47 rfl ?_
            refine ev_if_lt (tg := 58) i_X9_rule_49 (by decide) (fun c49 => ?_) (fun c49 => ?_)
            · rw [if_pos c49] at hf
              refine ev_iconst i_X9_rule_58 lt_i_m1 ?_
              cases hf
              exact ev_iiret i_X9_rule_59 rfl
            · rw [if_neg c49] at hf
              refine ev_iload i_X9_rule_52 rfl ?_
              refine ev_iconst i_X9_rule_54 lt_i_4 ?_
              refine ev_icmp_le (tg := 60) i_X9_rule_55 (by decide) (fun c55 => ?_) (fun c55 => ?_)
              · rw [if_pos c55] at hf
                refine ev_aload i_X9_rule_60 rfl ?_
                refine ev_iload_n i_X9_rule_62 rfl ?_
                refine ev_iload i_X9_rule_63 rfl ?_
                refine ev_iload i_X9_rule_65 rfl ?_
                refine ev_iload i_X9_rule_67 rfl ?_
                obtain ⟨h69, e69, hf⟩ := ob hf
                refine ev_cV_v i_X9_rule_69 lk_X9_rule_109 [.int x3, .int x4, .int x5, .int x6] rfl rfl (by decide) (gK_of e69).1.1 (gK_of e69).1.2 (Nat.le_of_ble_eq_true rfl) (by decide) (e_X5_add e69) ?_
                refine ev_aload_n i_X9_rule_72 rfl ?_
                obtain ⟨h73, e73, hf⟩ := ob hf
                refine ev_cV_v i_X9_rule_73 lk_X9_rule_64 [] rfl rfl (by decide) (gK_of e73).1.1 (gK_of e73).1.2 (Nat.le_of_ble_eq_true rfl) (by decide) (e_X9_startAfresh e73) ?_
                refine ev_aload i_X9_rule_76 rfl ?_
                obtain ⟨v78, e78, hf⟩ := ob hf
                refine ev_cV_i i_X9_rule_78 lk_X9_rule_101 [] rfl rfl (by decide) (gK_of e78).1.1 (gK_of e78).1.2 (Nat.le_of_ble_eq_true rfl) (by decide) (e_X5_size e78) ?_
                cases hf
                exact ev_iiret i_X9_rule_81 rfl
              · rw [if_neg c55] at hf
                refine ev_iconst i_X9_rule_58 lt_i_m1 ?_
                cases hf
                exact ev_iiret i_X9_rule_59 rfl
def f_X9_strike (h : MH) (a0 : Nat) (x1 : Int32) (x2 : Int32) (x3 : Int32) : Option (Int32 × MH) := gK h a0 9 ((gR h a0 9 0).bind fun b1 => (f_X1_rowOf h b1 x1 x2).bind fun o6 => (match o6 with | none => (some ((-1 : Int32), h)) | some q6 => ((if x3 < 0 then (some ((-1 : Int32), h)) else ((f_X5_size h q6).bind fun v23 => (if x3 < v23 then ((f_X5_remove h q6 x3).bind fun h34 => (f_X9_startAfresh h34 a0).bind fun h38 => (f_X5_size h38 q6).bind fun v43 => some (v43, h38)) else (some ((-1 : Int32), h))))))))
set_option maxRecDepth 20000 in
theorem e_X9_strike {G : GG} {h : MH} {a0 : Nat} {x1 : Int32} {x2 : Int32} {x3 : Int32} {r : (Int32 × MH)} (hf : f_X9_strike h a0 x1 x2 x3 = some r) : Ev G 3 M_X9_strike 0 (ent M_X9_strike [.ref a0, .int x1, .int x2, .int x3]) [] h (some (.int r.1)) r.2 := by
  unfold f_X9_strike at hf
  show Ev G 3 M_X9_strike 0 [some (.ref a0), some (.int x1), some (.int x2), some (.int x3), none] [] h (some (.int r.1)) r.2
  obtain ⟨-, hf⟩ := gK_of hf
  refine ev_aload_n i_X9_strike_0 rfl ?_
  obtain ⟨b1, e1, hf⟩ := ob hf
  refine ev_gR i_X9_strike_1 fl_X9_10 rfl e1 ?_
  refine ev_iload_n i_X9_strike_4 rfl ?_
  refine ev_iload_n i_X9_strike_5 rfl ?_
  obtain ⟨o6, e6, hf⟩ := ob hf
  cases o6 with
  | none =>
    dsimp only at hf
    refine ev_cV_r i_X9_strike_6 lk_X9_strike_97 [.int x1, .int x2] rfl rfl (by decide) (gK_of e6).1.1 (gK_of e6).1.2 (Nat.le_of_ble_eq_true rfl) (by decide) (e_X1_rowOf e6) ?_
    refine ev_astoreN i_X9_strike_9 (by decide) ?_
    refine ev_aloadN i_X9_strike_11 rfl ?_
    refine ev_ifnullN (tg := 29) i_X9_strike_13 (by decide) ?_
    refine ev_iconst i_X9_strike_29 lt_i_m1 ?_
    cases hf
    exact ev_iiret i_X9_strike_30 rfl
  | some q6 =>
    dsimp only at hf
    refine ev_cV_r i_X9_strike_6 lk_X9_strike_97 [.int x1, .int x2] rfl rfl (by decide) (gK_of e6).1.1 (gK_of e6).1.2 (Nat.le_of_ble_eq_true rfl) (by decide) (e_X1_rowOf e6) ?_
    refine ev_astore i_X9_strike_9 (by decide) ?_
    refine ev_aload i_X9_strike_11 rfl ?_
    refine ev_ifnull i_X9_strike_13 ?_
    refine ev_iload_n i_X9_strike_16 rfl ?_
    refine ev_if_lt (tg := 29) i_X9_strike_17 (by decide) (fun c17 => ?_) (fun c17 => ?_)
    · rw [if_pos c17] at hf
      refine ev_iconst i_X9_strike_29 lt_i_m1 ?_
      cases hf
      exact ev_iiret i_X9_strike_30 rfl
    · rw [if_neg c17] at hf
      refine ev_iload_n i_X9_strike_20 rfl ?_
      refine ev_aload i_X9_strike_21 rfl ?_
      obtain ⟨v23, e23, hf⟩ := ob hf
      refine ev_cV_i i_X9_strike_23 lk_X9_strike_101 [] rfl rfl (by decide) (gK_of e23).1.1 (gK_of e23).1.2 (Nat.le_of_ble_eq_true rfl) (by decide) (e_X5_size e23) ?_
      refine ev_icmp_lt (tg := 31) i_X9_strike_26 (by decide) (fun c26 => ?_) (fun c26 => ?_)
      · rw [if_pos c26] at hf
        refine ev_aload i_X9_strike_31 rfl ?_
        refine ev_iload_n i_X9_strike_33 rfl ?_
        obtain ⟨h34, e34, hf⟩ := ob hf
        refine ev_cV_v i_X9_strike_34 lk_X9_strike_112 [.int x3] rfl rfl (by decide) (gK_of e34).1.1 (gK_of e34).1.2 (Nat.le_of_ble_eq_true rfl) (by decide) (e_X5_remove e34) ?_
        refine ev_aload_n i_X9_strike_37 rfl ?_
        obtain ⟨h38, e38, hf⟩ := ob hf
        refine ev_cV_v i_X9_strike_38 lk_X9_strike_64 [] rfl rfl (by decide) (gK_of e38).1.1 (gK_of e38).1.2 (Nat.le_of_ble_eq_true rfl) (by decide) (e_X9_startAfresh e38) ?_
        refine ev_aload i_X9_strike_41 rfl ?_
        obtain ⟨v43, e43, hf⟩ := ob hf
        refine ev_cV_i i_X9_strike_43 lk_X9_strike_101 [] rfl rfl (by decide) (gK_of e43).1.1 (gK_of e43).1.2 (Nat.le_of_ble_eq_true rfl) (by decide) (e_X5_size e43) ?_
        cases hf
        exact ev_iiret i_X9_strike_46 rfl
      · rw [if_neg c26] at hf
        refine ev_iconst i_X9_strike_29 lt_i_m1 ?_
        cases hf
        exact ev_iiret i_X9_strike_30 rfl
def f_X9_copy_j51 (h : MH) (a0 : Nat) (a3 : Nat) : Option (Int32 × MH) := (f_X9_startAfresh h a0).bind fun h52 => (f_X5_size h52 a3).bind fun v56 => some (v56, h52)
set_option maxRecDepth 20000 in
theorem j_X9_copy_51 {G : GG} {h : MH} {a0 : Nat} {a3 : Nat} {r : (Int32 × MH)} (hf : f_X9_copy_j51 h a0 a3 = some r) : Ev G 3 M_X9_copy 51 [some (.ref a0), none, none, some (.ref a3), none] [] h (some (.int r.1)) r.2 := by
  unfold f_X9_copy_j51 at hf
  refine ev_aload_n i_X9_copy_51 rfl ?_
  obtain ⟨h52, e52, hf⟩ := ob hf
  refine ev_cV_v i_X9_copy_52 lk_X9_copy_64 [] rfl rfl (by decide) (gK_of e52).1.1 (gK_of e52).1.2 (Nat.le_of_ble_eq_true rfl) (by decide) (e_X9_startAfresh e52) ?_
  refine ev_aload_n i_X9_copy_55 rfl ?_
  obtain ⟨v56, e56, hf⟩ := ob hf
  refine ev_cV_i i_X9_copy_56 lk_X9_copy_101 [] rfl rfl (by decide) (gK_of e56).1.1 (gK_of e56).1.2 (Nat.le_of_ble_eq_true rfl) (by decide) (e_X5_size e56) ?_
  cases hf
  exact ev_iiret i_X9_copy_59 rfl
def f_X9_copy (h : MH) (a0 : Nat) (x1 : Int32) (x2 : Int32) : Option (Int32 × MH) := gK h a0 9 ((gR h a0 9 0).bind fun b1 => (f_X1_rowOf h b1 (0 : Int32) x1).bind fun o6 => (match o6 with | none => ((gR h a0 9 0).bind fun b11 => (f_X1_rowOf h b11 (1 : Int32) x1).bind fun o16 => (match o16 with | none => (some ((-1 : Int32), h)) | some q16 => (some ((-1 : Int32), h)))) | some q6 => ((gR h a0 9 0).bind fun b11 => (f_X1_rowOf h b11 (1 : Int32) x1).bind fun o16 => (match o16 with | none => (some ((-1 : Int32), h)) | some q16 => ((if x2 = 0 then ((f_X5_becomeLike h q6 q16).bind fun h48 => f_X9_copy_j51 h48 a0 q6) else ((f_X5_becomeLike h q16 q6).bind fun h39 => f_X9_copy_j51 h39 a0 q6)))))))
set_option maxRecDepth 20000 in
theorem e_X9_copy {G : GG} {h : MH} {a0 : Nat} {x1 : Int32} {x2 : Int32} {r : (Int32 × MH)} (hf : f_X9_copy h a0 x1 x2 = some r) : Ev G 3 M_X9_copy 0 (ent M_X9_copy [.ref a0, .int x1, .int x2]) [] h (some (.int r.1)) r.2 := by
  unfold f_X9_copy at hf
  show Ev G 3 M_X9_copy 0 [some (.ref a0), some (.int x1), some (.int x2), none, none] [] h (some (.int r.1)) r.2
  obtain ⟨-, hf⟩ := gK_of hf
  refine ev_aload_n i_X9_copy_0 rfl ?_
  obtain ⟨b1, e1, hf⟩ := ob hf
  refine ev_gR i_X9_copy_1 fl_X9_10 rfl e1 ?_
  refine ev_iconst i_X9_copy_4 lt_i_0 ?_
  refine ev_iload_n i_X9_copy_5 rfl ?_
  obtain ⟨o6, e6, hf⟩ := ob hf
  cases o6 with
  | none =>
    dsimp only at hf
    refine ev_cV_r i_X9_copy_6 lk_X9_copy_97 [.int (0 : Int32), .int x1] rfl rfl (by decide) (gK_of e6).1.1 (gK_of e6).1.2 (Nat.le_of_ble_eq_true rfl) (by decide) (e_X1_rowOf e6) ?_
    refine ev_astore_nN i_X9_copy_9 (by decide) ?_
    refine ev_aload_n i_X9_copy_10 rfl ?_
    obtain ⟨b11, e11, hf⟩ := ob hf
    refine ev_gR i_X9_copy_11 fl_X9_10 rfl e11 ?_
    refine ev_iconst i_X9_copy_14 lt_i_1 ?_
    refine ev_iload_n i_X9_copy_15 rfl ?_
    obtain ⟨o16, e16, hf⟩ := ob hf
    cases o16 with
    | none =>
      dsimp only at hf
      refine ev_cV_r i_X9_copy_16 lk_X9_copy_97 [.int (1 : Int32), .int x1] rfl rfl (by decide) (gK_of e16).1.1 (gK_of e16).1.2 (Nat.le_of_ble_eq_true rfl) (by decide) (e_X1_rowOf e16) ?_
      refine ev_astoreN i_X9_copy_19 (by decide) ?_
      refine ev_aload_nN i_X9_copy_21 rfl ?_
      refine ev_ifnullN (tg := 30) i_X9_copy_22 (by decide) ?_
      refine ev_iconst i_X9_copy_30 lt_i_m1 ?_
      cases hf
      exact ev_iiret i_X9_copy_31 rfl
    | some q16 =>
      dsimp only at hf
      refine ev_cV_r i_X9_copy_16 lk_X9_copy_97 [.int (1 : Int32), .int x1] rfl rfl (by decide) (gK_of e16).1.1 (gK_of e16).1.2 (Nat.le_of_ble_eq_true rfl) (by decide) (e_X1_rowOf e16) ?_
      refine ev_astore i_X9_copy_19 (by decide) ?_
      refine ev_aload_nN i_X9_copy_21 rfl ?_
      refine ev_ifnullN (tg := 30) i_X9_copy_22 (by decide) ?_
      refine ev_iconst i_X9_copy_30 lt_i_m1 ?_
      cases hf
      exact ev_iiret i_X9_copy_31 rfl
  | some q6 =>
    dsimp only at hf
    refine ev_cV_r i_X9_copy_6 lk_X9_copy_97 [.int (0 : Int32), .int x1] rfl rfl (by decide) (gK_of e6).1.1 (gK_of e6).1.2 (Nat.le_of_ble_eq_true rfl) (by decide) (e_X1_rowOf e6) ?_
    refine ev_astore_n i_X9_copy_9 (by decide) ?_
    refine ev_aload_n i_X9_copy_10 rfl ?_
    obtain ⟨b11, e11, hf⟩ := ob hf
    refine ev_gR i_X9_copy_11 fl_X9_10 rfl e11 ?_
    refine ev_iconst i_X9_copy_14 lt_i_1 ?_
    refine ev_iload_n i_X9_copy_15 rfl ?_
    obtain ⟨o16, e16, hf⟩ := ob hf
    cases o16 with
    | none =>
      dsimp only at hf
      refine ev_cV_r i_X9_copy_16 lk_X9_copy_97 [.int (1 : Int32), .int x1] rfl rfl (by decide) (gK_of e16).1.1 (gK_of e16).1.2 (Nat.le_of_ble_eq_true rfl) (by decide) (e_X1_rowOf e16) ?_
      refine ev_astoreN i_X9_copy_19 (by decide) ?_
      refine ev_aload_n i_X9_copy_21 rfl ?_
      refine ev_ifnull i_X9_copy_22 ?_
      refine ev_aloadN i_X9_copy_25 rfl ?_
      refine ev_ifnonnullN i_X9_copy_27 ?_
      refine ev_iconst i_X9_copy_30 lt_i_m1 ?_
      cases hf
      exact ev_iiret i_X9_copy_31 rfl
    | some q16 =>
      dsimp only at hf
      refine ev_cV_r i_X9_copy_16 lk_X9_copy_97 [.int (1 : Int32), .int x1] rfl rfl (by decide) (gK_of e16).1.1 (gK_of e16).1.2 (Nat.le_of_ble_eq_true rfl) (by decide) (e_X1_rowOf e16) ?_
      refine ev_astore i_X9_copy_19 (by decide) ?_
      refine ev_aload_n i_X9_copy_21 rfl ?_
      refine ev_ifnull i_X9_copy_22 ?_
      refine ev_aload i_X9_copy_25 rfl ?_
      refine ev_ifnonnull (tg := 32) i_X9_copy_27 (by decide) ?_
      refine ev_iload_n i_X9_copy_32 rfl ?_
      refine ev_if_eq (tg := 45) i_X9_copy_33 (by decide) (fun c33 => ?_) (fun c33 => ?_)
      · rw [if_pos c33] at hf
        refine ev_aload_n i_X9_copy_45 rfl ?_
        refine ev_aload i_X9_copy_46 rfl ?_
        obtain ⟨h48, e48, hf⟩ := ob hf
        refine ev_cV_v i_X9_copy_48 lk_X9_copy_115 [.ref q16] rfl rfl (by decide) (gK_of e48).1.1 (gK_of e48).1.2 (Nat.le_of_ble_eq_true rfl) (by decide) (e_X5_becomeLike e48) ?_
        refine ev_sub (lc2 := [some (.ref a0), none, none, some (.ref q6), none]) ⟨Or.inr rfl, Or.inl rfl, Or.inl rfl, Or.inr rfl, Or.inl rfl, trivial⟩ ?_
        exact j_X9_copy_51 hf
      · rw [if_neg c33] at hf
        refine ev_aload i_X9_copy_36 rfl ?_
        refine ev_aload_n i_X9_copy_38 rfl ?_
        obtain ⟨h39, e39, hf⟩ := ob hf
        refine ev_cV_v i_X9_copy_39 lk_X9_copy_115 [.ref q6] rfl rfl (by decide) (gK_of e39).1.1 (gK_of e39).1.2 (Nat.le_of_ble_eq_true rfl) (by decide) (e_X5_becomeLike e39) ?_
        refine ev_goto (tg := 51) i_X9_copy_42 (by decide) ?_
        refine ev_sub (lc2 := [some (.ref a0), none, none, some (.ref q6), none]) ⟨Or.inr rfl, Or.inl rfl, Or.inl rfl, Or.inr rfl, Or.inl rfl, trivial⟩ ?_
        exact j_X9_copy_51 hf
def f_X9_want_j83 (h : MH) (a0 : Nat) (x1 : Int32) (x2 : Int32) (x3 : Int32) (x4 : Int32) (x5 : Int32) (x6 : Int32) : Option (Int32 × MH) := (gR h a0 9 1).bind fun b84 => (f_X7_init (mm_no h 7) (mm_N h) x1 x2 x3 x4 x5 x6).bind fun h100 => (f_X0_addWant h100 b84 (mm_N h)).bind fun h103 => (f_X9_startAfresh h103 a0).bind fun h107 => (gR h107 a0 9 1).bind fun b111 => (f_X0_wantCount h107 b111).bind fun v114 => some ((v114 - (1 : Int32)), h107)
set_option maxRecDepth 20000 in
theorem j_X9_want_83 {G : GG} {h : MH} {a0 : Nat} {x1 : Int32} {x2 : Int32} {x3 : Int32} {x4 : Int32} {x5 : Int32} {x6 : Int32} {r : (Int32 × MH)} (hf : f_X9_want_j83 h a0 x1 x2 x3 x4 x5 x6 = some r) : Ev G 2 M_X9_want 83 [some (.ref a0), some (.int x1), some (.int x2), some (.int x3), some (.int x4), some (.int x5), some (.int x6)] [] h (some (.int r.1)) r.2 := by
  unfold f_X9_want_j83 at hf
  refine ev_aload_n i_X9_want_83 rfl ?_
  obtain ⟨b84, e84, hf⟩ := ob hf
  refine ev_gR i_X9_want_84 fl_X9_21 rfl e84 ?_
  refine ev_new i_X9_want_87 nc_X9_131 ?_
  refine ev_dup i_X9_want_90 ?_
  refine ev_iload_n i_X9_want_91 rfl ?_
  refine ev_iload_n i_X9_want_92 rfl ?_
  refine ev_iload_n i_X9_want_93 rfl ?_
  refine ev_iload i_X9_want_94 rfl ?_
  refine ev_iload i_X9_want_96 rfl ?_
  refine ev_iload i_X9_want_98 rfl ?_
  obtain ⟨h100, e100, hf⟩ := ob hf
  refine ev_cI_v i_X9_want_100 lk_X9_want_133 [.int x1, .int x2, .int x3, .int x4, .int x5, .int x6] rfl rfl (by decide) (Nat.le_of_ble_eq_true rfl) (by decide) (e_X7_init e100) ?_
  obtain ⟨h103, e103, hf⟩ := ob hf
  refine ev_cV_v i_X9_want_103 lk_X9_want_136 [.ref (mm_N h)] rfl rfl (by decide) (gK_of e103).1.1 (gK_of e103).1.2 (Nat.le_of_ble_eq_true rfl) (by decide) (e_X0_addWant e103) ?_
  refine ev_aload_n i_X9_want_106 rfl ?_
  obtain ⟨h107, e107, hf⟩ := ob hf
  refine ev_cV_v i_X9_want_107 lk_X9_want_64 [] rfl rfl (by decide) (gK_of e107).1.1 (gK_of e107).1.2 (Nat.le_of_ble_eq_true rfl) (by decide) (e_X9_startAfresh e107) ?_
  refine ev_aload_n i_X9_want_110 rfl ?_
  obtain ⟨b111, e111, hf⟩ := ob hf
  refine ev_gR i_X9_want_111 fl_X9_21 rfl e111 ?_
  obtain ⟨v114, e114, hf⟩ := ob hf
  refine ev_cV_i i_X9_want_114 lk_X9_want_122 [] rfl rfl (by decide) (gK_of e114).1.1 (gK_of e114).1.2 (Nat.le_of_ble_eq_true rfl) (by decide) (e_X0_wantCount e114) ?_
  refine ev_iconst i_X9_want_117 lt_i_1 ?_
  refine ev_isub i_X9_want_118 ?_
  cases hf
  exact ev_iiret i_X9_want_119 rfl
def f_X9_want_j64 (h : MH) (a0 : Nat) (x1 : Int32) (x2 : Int32) (x3 : Int32) (x4 : Int32) (x5 : Int32) (x6 : Int32) : Option (Int32 × MH) := (if x1 = (3 : Int32) then ((gR h a0 9 0).bind fun b70 => (f_X1_hasSwitch h b70 x6).bind fun v75 => (if v75 = 0 then (some ((-1 : Int32), h)) else (f_X9_want_j83 h a0 x1 x2 x3 x4 x5 x6))) else (f_X9_want_j83 h a0 x1 x2 x3 x4 x5 x6))
set_option maxRecDepth 20000 in
theorem j_X9_want_64 {G : GG} {h : MH} {a0 : Nat} {x1 : Int32} {x2 : Int32} {x3 : Int32} {x4 : Int32} {x5 : Int32} {x6 : Int32} {r : (Int32 × MH)} (hf : f_X9_want_j64 h a0 x1 x2 x3 x4 x5 x6 = some r) : Ev G 2 M_X9_want 64 [some (.ref a0), some (.int x1), some (.int x2), some (.int x3), some (.int x4), some (.int x5), some (.int x6)] [] h (some (.int r.1)) r.2 := by
  unfold f_X9_want_j64 at hf
  refine ev_iload_n i_X9_want_64 rfl ?_
  refine ev_iconst i_X9_want_65 lt_i_3 ?_
  refine ev_icmp_ne (tg := 83) i_X9_want_66 (by decide) (fun c66 => ?_) (fun c66 => ?_)
  · rw [if_neg c66] at hf
    exact j_X9_want_83 hf
  · rw [if_pos c66] at hf
    refine ev_aload_n i_X9_want_69 rfl ?_
    obtain ⟨b70, e70, hf⟩ := ob hf
    refine ev_gR i_X9_want_70 fl_X9_10 rfl e70 ?_
    refine ev_iload i_X9_want_73 rfl ?_
    obtain ⟨v75, e75, hf⟩ := ob hf
    refine ev_cV_i i_X9_want_75 lk_X9_want_128 [.int x6] rfl rfl (by decide) (gK_of e75).1.1 (gK_of e75).1.2 (Nat.le_of_ble_eq_true rfl) (by decide) (e_X1_hasSwitch e75) ?_
    refine ev_if_ne (tg := 83) i_X9_want_78 (by decide) (fun c78 => ?_) (fun c78 => ?_)
    · rw [if_neg c78] at hf
      exact j_X9_want_83 hf
    · rw [if_pos c78] at hf
      refine ev_iconst i_X9_want_81 lt_i_m1 ?_
      cases hf
      exact ev_iiret i_X9_want_82 rfl
def f_X9_want (h : MH) (a0 : Nat) (x1 : Int32) (x2 : Int32) (x3 : Int32) (x4 : Int32) (x5 : Int32) (x6 : Int32) : Option (Int32 × MH) := gK h a0 9 ((if x1 < 0 then (some ((-1 : Int32), h)) else ((if (4 : Int32) < x1 then (some ((-1 : Int32), h)) else ((f_X9_isSpan h x2 x3).bind fun v11 => (if v11 = 0 then (some ((-1 : Int32), h)) else ((gR h a0 9 0).bind fun b18 => (f_X1_hasHost h b18 x4).bind fun v23 => (if v23 = 0 then (some ((-1 : Int32), h)) else ((gR h a0 9 1).bind fun b30 => (f_X0_wantCount h b30).bind fun v33 => (if v33 < (10 : Int32) then ((f_X9_hasTarget h x1).bind fun v44 => (if v44 = 0 then (f_X9_want_j64 h a0 x1 x2 x3 x4 x5 x6) else ((gR h a0 9 0).bind fun b51 => (f_X1_hasHost h b51 x5).bind fun v56 => (if v56 = 0 then (some ((-1 : Int32), h)) else (f_X9_want_j64 h a0 x1 x2 x3 x4 x5 x6))))) else (some ((-1 : Int32), h))))))))))))
set_option maxRecDepth 20000 in
theorem e_X9_want {G : GG} {h : MH} {a0 : Nat} {x1 : Int32} {x2 : Int32} {x3 : Int32} {x4 : Int32} {x5 : Int32} {x6 : Int32} {r : (Int32 × MH)} (hf : f_X9_want h a0 x1 x2 x3 x4 x5 x6 = some r) : Ev G 2 M_X9_want 0 (ent M_X9_want [.ref a0, .int x1, .int x2, .int x3, .int x4, .int x5, .int x6]) [] h (some (.int r.1)) r.2 := by
  unfold f_X9_want at hf
  show Ev G 2 M_X9_want 0 [some (.ref a0), some (.int x1), some (.int x2), some (.int x3), some (.int x4), some (.int x5), some (.int x6)] [] h (some (.int r.1)) r.2
  obtain ⟨-, hf⟩ := gK_of hf
  refine ev_iload_n i_X9_want_0 rfl ?_
  refine ev_if_lt (tg := 41) i_X9_want_1 (by decide) (fun c1 => ?_) (fun c1 => ?_)
  · rw [if_pos c1] at hf
    refine ev_iconst i_X9_want_41 lt_i_m1 ?_
    cases hf
    exact ev_iiret i_X9_want_42 rfl
  · rw [if_neg c1] at hf
    refine ev_iload_n i_X9_want_4 rfl ?_
    refine ev_iconst i_X9_want_5 lt_i_4 ?_
    refine ev_icmp_gt (tg := 41) i_X9_want_6 (by decide) (fun c6 => ?_) (fun c6 => ?_)
    · rw [if_pos c6] at hf
      refine ev_iconst i_X9_want_41 lt_i_m1 ?_
      cases hf
      exact ev_iiret i_X9_want_42 rfl
    · rw [if_neg c6] at hf
      refine ev_iload_n i_X9_want_9 rfl ?_
      refine ev_iload_n i_X9_want_10 rfl ?_
      obtain ⟨v11, e11, hf⟩ := ob hf
      refine ev_cS_i i_X9_want_11 lk_X9_want_106 [.int x2, .int x3] rfl rfl (by decide) (Nat.le_of_ble_eq_true rfl) (by decide) (e_X9_isSpan e11) ?_
      refine ev_if_eq (tg := 41) i_X9_want_14 (by decide) (fun c14 => ?_) (fun c14 => ?_)
      · rw [if_pos c14] at hf
        refine ev_iconst i_X9_want_41 lt_i_m1 ?_
        cases hf
        exact ev_iiret i_X9_want_42 rfl
      · rw [if_neg c14] at hf
        refine ev_aload_n i_X9_want_17 rfl ?_
        obtain ⟨b18, e18, hf⟩ := ob hf
        refine ev_gR i_X9_want_18 fl_X9_10 rfl e18 ?_
        refine ev_iload i_X9_want_21 rfl ?_
        obtain ⟨v23, e23, hf⟩ := ob hf
        refine ev_cV_i i_X9_want_23 lk_X9_want_119 [.int x4] rfl rfl (by decide) (gK_of e23).1.1 (gK_of e23).1.2 (Nat.le_of_ble_eq_true rfl) (by decide) (e_X1_hasHost e23) ?_
        refine ev_if_eq (tg := 41) i_X9_want_26 (by decide) (fun c26 => ?_) (fun c26 => ?_)
        · rw [if_pos c26] at hf
          refine ev_iconst i_X9_want_41 lt_i_m1 ?_
          cases hf
          exact ev_iiret i_X9_want_42 rfl
        · rw [if_neg c26] at hf
          refine ev_aload_n i_X9_want_29 rfl ?_
          obtain ⟨b30, e30, hf⟩ := ob hf
          refine ev_gR i_X9_want_30 fl_X9_21 rfl e30 ?_
          obtain ⟨v33, e33, hf⟩ := ob hf
          refine ev_cV_i i_X9_want_33 lk_X9_want_122 [] rfl rfl (by decide) (gK_of e33).1.1 (gK_of e33).1.2 (Nat.le_of_ble_eq_true rfl) (by decide) (e_X0_wantCount e33) ?_
          refine ev_bipush i_X9_want_36 lt_b_10 ?_
          refine ev_icmp_lt (tg := 43) i_X9_want_38 (by decide) (fun c38 => ?_) (fun c38 => ?_)
          · rw [if_pos c38] at hf
            refine ev_iload_n i_X9_want_43 rfl ?_
            obtain ⟨v44, e44, hf⟩ := ob hf
            refine ev_cS_i i_X9_want_44 lk_X9_want_125 [.int x1] rfl rfl (by decide) (Nat.le_of_ble_eq_true rfl) (by decide) (e_X9_hasTarget e44) ?_
            refine ev_if_eq (tg := 64) i_X9_want_47 (by decide) (fun c47 => ?_) (fun c47 => ?_)
            · rw [if_pos c47] at hf
              exact j_X9_want_64 hf
            · rw [if_neg c47] at hf
              refine ev_aload_n i_X9_want_50 rfl ?_
              obtain ⟨b51, e51, hf⟩ := ob hf
              refine ev_gR i_X9_want_51 fl_X9_10 rfl e51 ?_
              refine ev_iload i_X9_want_54 rfl ?_
              obtain ⟨v56, e56, hf⟩ := ob hf
              refine ev_cV_i i_X9_want_56 lk_X9_want_119 [.int x5] rfl rfl (by decide) (gK_of e56).1.1 (gK_of e56).1.2 (Nat.le_of_ble_eq_true rfl) (by decide) (e_X1_hasHost e56) ?_
              refine ev_if_ne (tg := 64) i_X9_want_59 (by decide) (fun c59 => ?_) (fun c59 => ?_)
              · rw [if_neg c59] at hf
                exact j_X9_want_64 hf
              · rw [if_pos c59] at hf
                refine ev_iconst i_X9_want_62 lt_i_m1 ?_
                cases hf
                exact ev_iiret i_X9_want_63 rfl
          · rw [if_neg c38] at hf
            refine ev_iconst i_X9_want_41 lt_i_m1 ?_
            cases hf
            exact ev_iiret i_X9_want_42 rfl
def f_X9_unwant (h : MH) (a0 : Nat) (x1 : Int32) : Option (Int32 × MH) := gK h a0 9 ((if x1 < 0 then (some ((-1 : Int32), h)) else ((gR h a0 9 1).bind fun b6 => (f_X0_wantCount h b6).bind fun v9 => (if x1 < v9 then ((gR h a0 9 1).bind fun b18 => (f_X0_removeWant h b18 x1).bind fun h22 => (f_X9_startAfresh h22 a0).bind fun h26 => (gR h26 a0 9 1).bind fun b30 => (f_X0_wantCount h26 b30).bind fun v33 => some (v33, h26)) else (some ((-1 : Int32), h))))))
set_option maxRecDepth 20000 in
theorem e_X9_unwant {G : GG} {h : MH} {a0 : Nat} {x1 : Int32} {r : (Int32 × MH)} (hf : f_X9_unwant h a0 x1 = some r) : Ev G 2 M_X9_unwant 0 (ent M_X9_unwant [.ref a0, .int x1]) [] h (some (.int r.1)) r.2 := by
  unfold f_X9_unwant at hf
  show Ev G 2 M_X9_unwant 0 [some (.ref a0), some (.int x1)] [] h (some (.int r.1)) r.2
  obtain ⟨-, hf⟩ := gK_of hf
  refine ev_iload_n i_X9_unwant_0 rfl ?_
  refine ev_if_lt (tg := 15) i_X9_unwant_1 (by decide) (fun c1 => ?_) (fun c1 => ?_)
  · rw [if_pos c1] at hf
    refine ev_iconst i_X9_unwant_15 lt_i_m1 ?_
    cases hf
    exact ev_iiret i_X9_unwant_16 rfl
  · rw [if_neg c1] at hf
    refine ev_iload_n i_X9_unwant_4 rfl ?_
    refine ev_aload_n i_X9_unwant_5 rfl ?_
    obtain ⟨b6, e6, hf⟩ := ob hf
    refine ev_gR i_X9_unwant_6 fl_X9_21 rfl e6 ?_
    obtain ⟨v9, e9, hf⟩ := ob hf
    refine ev_cV_i i_X9_unwant_9 lk_X9_unwant_122 [] rfl rfl (by decide) (gK_of e9).1.1 (gK_of e9).1.2 (Nat.le_of_ble_eq_true rfl) (by decide) (e_X0_wantCount e9) ?_
    refine ev_icmp_lt (tg := 17) i_X9_unwant_12 (by decide) (fun c12 => ?_) (fun c12 => ?_)
    · rw [if_pos c12] at hf
      refine ev_aload_n i_X9_unwant_17 rfl ?_
      obtain ⟨b18, e18, hf⟩ := ob hf
      refine ev_gR i_X9_unwant_18 fl_X9_21 rfl e18 ?_
      refine ev_iload_n i_X9_unwant_21 rfl ?_
      obtain ⟨h22, e22, hf⟩ := ob hf
      refine ev_cV_v i_X9_unwant_22 lk_X9_unwant_140 [.int x1] rfl rfl (by decide) (gK_of e22).1.1 (gK_of e22).1.2 (Nat.le_of_ble_eq_true rfl) (by decide) (e_X0_removeWant e22) ?_
      refine ev_aload_n i_X9_unwant_25 rfl ?_
      obtain ⟨h26, e26, hf⟩ := ob hf
      refine ev_cV_v i_X9_unwant_26 lk_X9_unwant_64 [] rfl rfl (by decide) (gK_of e26).1.1 (gK_of e26).1.2 (Nat.le_of_ble_eq_true rfl) (by decide) (e_X9_startAfresh e26) ?_
      refine ev_aload_n i_X9_unwant_29 rfl ?_
      obtain ⟨b30, e30, hf⟩ := ob hf
      refine ev_gR i_X9_unwant_30 fl_X9_21 rfl e30 ?_
      obtain ⟨v33, e33, hf⟩ := ob hf
      refine ev_cV_i i_X9_unwant_33 lk_X9_unwant_122 [] rfl rfl (by decide) (gK_of e33).1.1 (gK_of e33).1.2 (Nat.le_of_ble_eq_true rfl) (by decide) (e_X0_wantCount e33) ?_
      cases hf
      exact ev_iiret i_X9_unwant_36 rfl
    · rw [if_neg c12] at hf
      refine ev_iconst i_X9_unwant_15 lt_i_m1 ?_
      cases hf
      exact ev_iiret i_X9_unwant_16 rfl
def f_X9_look (h : MH) (a0 : Nat) (x1 : Int32) : Option (Int32 × MH) := gK h a0 9 ((if x1 = 0 then ((gR h a0 9 0).bind fun b57 => (f_X1_switchCount h b57).bind fun v60 => some (v60, h)) else (if x1 = 1 then ((gR h a0 9 0).bind fun b65 => (f_X1_hostCount h b65).bind fun v68 => some (v68, h)) else (if x1 = 2 then ((gR h a0 9 0).bind fun b73 => (f_X1_linkCount h b73).bind fun v76 => some (v76, h)) else (if x1 = 3 then ((gR h a0 9 0).bind fun b81 => (f_X1_ruleCount h b81).bind fun v84 => some (v84, h)) else (if x1 = 4 then ((gR h a0 9 1).bind fun b89 => (f_X0_wantCount h b89).bind fun v92 => some (v92, h)) else (if x1 = 5 then ((gR h a0 9 0).bind fun b97 => (f_X1_unlike h b97).bind fun v100 => some (v100, h)) else (if x1 = 6 then ((gR h a0 9 0).bind fun b105 => (f_X1_classCount h b105).bind fun r108 => some (r108.1, r108.2)) else (if x1 = 7 then ((gR h a0 9 3).bind fun b113 => (f_X4_countGood h b113).bind fun r116 => some (r116.1, r116.2)) else (if x1 = 8 then ((gR h a0 9 2).bind fun b121 => (f_X3_size h b121).bind fun v124 => some (v124, h)) else (if x1 = 9 then ((gR h a0 9 2).bind fun b129 => (f_X3_members h b129).bind fun v132 => (gR h a0 9 0).bind fun b136 => (f_X1_unlike h b136).bind fun v139 => (if v132 = v139 then (some ((1 : Int32), h)) else (some ((0 : Int32), h)))) else (some ((-1 : Int32), h)))))))))))))
set_option maxRecDepth 20000 in
theorem e_X9_look {G : GG} {h : MH} {a0 : Nat} {x1 : Int32} {r : (Int32 × MH)} (hf : f_X9_look h a0 x1 = some r) : Ev G 7 M_X9_look 0 (ent M_X9_look [.ref a0, .int x1]) [] h (some (.int r.1)) r.2 := by
  unfold f_X9_look at hf
  show Ev G 7 M_X9_look 0 [some (.ref a0), some (.int x1)] [] h (some (.int r.1)) r.2
  obtain ⟨-, hf⟩ := gK_of hf
  refine ev_iload_n i_X9_look_0 rfl ?_
  by_cases c1_0 : x1 = 0
  · rw [if_pos c1_0] at hf
    refine ev_ts (tg := 56) 0 55 i_X9_look_1 c1_0 (by decide) ?_
    refine ev_aload_n i_X9_look_56 rfl ?_
    obtain ⟨b57, e57, hf⟩ := ob hf
    refine ev_gR i_X9_look_57 fl_X9_10 rfl e57 ?_
    obtain ⟨v60, e60, hf⟩ := ob hf
    refine ev_cV_i i_X9_look_60 lk_X9_look_143 [] rfl rfl (by decide) (gK_of e60).1.1 (gK_of e60).1.2 (Nat.le_of_ble_eq_true rfl) (by decide) (e_X1_switchCount e60) ?_
    cases hf
    exact ev_iiret i_X9_look_63 rfl
  rw [if_neg c1_0] at hf
  by_cases c1_1 : x1 = 1
  · rw [if_pos c1_1] at hf
    refine ev_ts (tg := 64) 1 63 i_X9_look_1 c1_1 (by decide) ?_
    refine ev_aload_n i_X9_look_64 rfl ?_
    obtain ⟨b65, e65, hf⟩ := ob hf
    refine ev_gR i_X9_look_65 fl_X9_10 rfl e65 ?_
    obtain ⟨v68, e68, hf⟩ := ob hf
    refine ev_cV_i i_X9_look_68 lk_X9_look_75 [] rfl rfl (by decide) (gK_of e68).1.1 (gK_of e68).1.2 (Nat.le_of_ble_eq_true rfl) (by decide) (e_X1_hostCount e68) ?_
    cases hf
    exact ev_iiret i_X9_look_71 rfl
  rw [if_neg c1_1] at hf
  by_cases c1_2 : x1 = 2
  · rw [if_pos c1_2] at hf
    refine ev_ts (tg := 72) 2 71 i_X9_look_1 c1_2 (by decide) ?_
    refine ev_aload_n i_X9_look_72 rfl ?_
    obtain ⟨b73, e73, hf⟩ := ob hf
    refine ev_gR i_X9_look_73 fl_X9_10 rfl e73 ?_
    obtain ⟨v76, e76, hf⟩ := ob hf
    refine ev_cV_i i_X9_look_76 lk_X9_look_146 [] rfl rfl (by decide) (gK_of e76).1.1 (gK_of e76).1.2 (Nat.le_of_ble_eq_true rfl) (by decide) (e_X1_linkCount e76) ?_
    cases hf
    exact ev_iiret i_X9_look_79 rfl
  rw [if_neg c1_2] at hf
  by_cases c1_3 : x1 = 3
  · rw [if_pos c1_3] at hf
    refine ev_ts (tg := 80) 3 79 i_X9_look_1 c1_3 (by decide) ?_
    refine ev_aload_n i_X9_look_80 rfl ?_
    obtain ⟨b81, e81, hf⟩ := ob hf
    refine ev_gR i_X9_look_81 fl_X9_10 rfl e81 ?_
    obtain ⟨v84, e84, hf⟩ := ob hf
    refine ev_cV_i i_X9_look_84 lk_X9_look_149 [] rfl rfl (by decide) (gK_of e84).1.1 (gK_of e84).1.2 (Nat.le_of_ble_eq_true rfl) (by decide) (e_X1_ruleCount e84) ?_
    cases hf
    exact ev_iiret i_X9_look_87 rfl
  rw [if_neg c1_3] at hf
  by_cases c1_4 : x1 = 4
  · rw [if_pos c1_4] at hf
    refine ev_ts (tg := 88) 4 87 i_X9_look_1 c1_4 (by decide) ?_
    refine ev_aload_n i_X9_look_88 rfl ?_
    obtain ⟨b89, e89, hf⟩ := ob hf
    refine ev_gR i_X9_look_89 fl_X9_21 rfl e89 ?_
    obtain ⟨v92, e92, hf⟩ := ob hf
    refine ev_cV_i i_X9_look_92 lk_X9_look_122 [] rfl rfl (by decide) (gK_of e92).1.1 (gK_of e92).1.2 (Nat.le_of_ble_eq_true rfl) (by decide) (e_X0_wantCount e92) ?_
    cases hf
    exact ev_iiret i_X9_look_95 rfl
  rw [if_neg c1_4] at hf
  by_cases c1_5 : x1 = 5
  · rw [if_pos c1_5] at hf
    refine ev_ts (tg := 96) 5 95 i_X9_look_1 c1_5 (by decide) ?_
    refine ev_aload_n i_X9_look_96 rfl ?_
    obtain ⟨b97, e97, hf⟩ := ob hf
    refine ev_gR i_X9_look_97 fl_X9_10 rfl e97 ?_
    obtain ⟨v100, e100, hf⟩ := ob hf
    refine ev_cV_i i_X9_look_100 lk_X9_look_152 [] rfl rfl (by decide) (gK_of e100).1.1 (gK_of e100).1.2 (Nat.le_of_ble_eq_true rfl) (by decide) (e_X1_unlike e100) ?_
    cases hf
    exact ev_iiret i_X9_look_103 rfl
  rw [if_neg c1_5] at hf
  by_cases c1_6 : x1 = 6
  · rw [if_pos c1_6] at hf
    refine ev_ts (tg := 104) 6 103 i_X9_look_1 c1_6 (by decide) ?_
    refine ev_aload_n i_X9_look_104 rfl ?_
    obtain ⟨b105, e105, hf⟩ := ob hf
    refine ev_gR i_X9_look_105 fl_X9_10 rfl e105 ?_
    obtain ⟨r108, e108, hf⟩ := ob hf
    refine ev_cV_i i_X9_look_108 lk_X9_look_155 [] rfl rfl (by decide) (gK_of e108).1.1 (gK_of e108).1.2 (Nat.le_of_ble_eq_true rfl) (by decide) (e_X1_classCount e108) ?_
    cases hf
    exact ev_iiret i_X9_look_111 rfl
  rw [if_neg c1_6] at hf
  by_cases c1_7 : x1 = 7
  · rw [if_pos c1_7] at hf
    refine ev_ts (tg := 112) 7 111 i_X9_look_1 c1_7 (by decide) ?_
    refine ev_aload_n i_X9_look_112 rfl ?_
    obtain ⟨b113, e113, hf⟩ := ob hf
    refine ev_gR i_X9_look_113 fl_X9_37 rfl e113 ?_
    obtain ⟨r116, e116, hf⟩ := ob hf
    refine ev_cV_i i_X9_look_116 lk_X9_look_158 [] rfl rfl (by decide) (gK_of e116).1.1 (gK_of e116).1.2 (Nat.le_of_ble_eq_true rfl) (by decide) (e_X4_countGood e116) ?_
    cases hf
    exact ev_iiret i_X9_look_119 rfl
  rw [if_neg c1_7] at hf
  by_cases c1_8 : x1 = 8
  · rw [if_pos c1_8] at hf
    refine ev_ts (tg := 120) 8 119 i_X9_look_1 c1_8 (by decide) ?_
    refine ev_aload_n i_X9_look_120 rfl ?_
    obtain ⟨b121, e121, hf⟩ := ob hf
    refine ev_gR i_X9_look_121 fl_X9_28 rfl e121 ?_
    obtain ⟨v124, e124, hf⟩ := ob hf
    refine ev_cV_i i_X9_look_124 lk_X9_look_161 [] rfl rfl (by decide) (gK_of e124).1.1 (gK_of e124).1.2 (Nat.le_of_ble_eq_true rfl) (by decide) (e_X3_size e124) ?_
    cases hf
    exact ev_iiret i_X9_look_127 rfl
  rw [if_neg c1_8] at hf
  by_cases c1_9 : x1 = 9
  · rw [if_pos c1_9] at hf
    refine ev_ts (tg := 128) 9 127 i_X9_look_1 c1_9 (by decide) ?_
    refine ev_aload_n i_X9_look_128 rfl ?_
    obtain ⟨b129, e129, hf⟩ := ob hf
    refine ev_gR i_X9_look_129 fl_X9_28 rfl e129 ?_
    obtain ⟨v132, e132, hf⟩ := ob hf
    refine ev_cV_i i_X9_look_132 lk_X9_look_162 [] rfl rfl (by decide) (gK_of e132).1.1 (gK_of e132).1.2 (Nat.le_of_ble_eq_true rfl) (by decide) (e_X3_members e132) ?_
    refine ev_aload_n i_X9_look_135 rfl ?_
    obtain ⟨b136, e136, hf⟩ := ob hf
    refine ev_gR i_X9_look_136 fl_X9_10 rfl e136 ?_
    obtain ⟨v139, e139, hf⟩ := ob hf
    refine ev_cV_i i_X9_look_139 lk_X9_look_152 [] rfl rfl (by decide) (gK_of e139).1.1 (gK_of e139).1.2 (Nat.le_of_ble_eq_true rfl) (by decide) (e_X1_unlike e139) ?_
    refine ev_icmp_ne (tg := 149) i_X9_look_142 (by decide) (fun c142 => ?_) (fun c142 => ?_)
    · rw [if_neg c142] at hf
      refine ev_iconst i_X9_look_149 lt_i_0 ?_
      cases hf
      exact ev_iiret i_X9_look_150 rfl
    · rw [if_pos c142] at hf
      refine ev_iconst i_X9_look_145 lt_i_1 ?_
      refine ev_goto (tg := 150) i_X9_look_146 (by decide) ?_
      cases hf
      exact ev_iiret i_X9_look_150 rfl
  rw [if_neg c1_9] at hf
  refine ev_tsOut (tg := 151) i_X9_look_1 (ts_out (n := 9) (by decide) (fun k hk => by rcases (show k = 0 ∨ k = 1 ∨ k = 2 ∨ k = 3 ∨ k = 4 ∨ k = 5 ∨ k = 6 ∨ k = 7 ∨ k = 8 ∨ k = 9 by omega) with rfl | rfl | rfl | rfl | rfl | rfl | rfl | rfl | rfl | rfl <;> assumption)) (by decide) ?_
  refine ev_iconst i_X9_look_151 lt_i_m1 ?_
  cases hf
  exact ev_iiret i_X9_look_152 rfl
def f_X9_ofClass (h : MH) (a0 : Nat) (x1 : Int32) : Option (Int32 × MH) := gK h a0 9 ((gR h a0 9 0).bind fun b1 => (f_X1_classOf h b1 x1).bind fun r5 => some (r5.1, r5.2))
set_option maxRecDepth 20000 in
theorem e_X9_ofClass {G : GG} {h : MH} {a0 : Nat} {x1 : Int32} {r : (Int32 × MH)} (hf : f_X9_ofClass h a0 x1 = some r) : Ev G 6 M_X9_ofClass 0 (ent M_X9_ofClass [.ref a0, .int x1]) [] h (some (.int r.1)) r.2 := by
  unfold f_X9_ofClass at hf
  show Ev G 6 M_X9_ofClass 0 [some (.ref a0), some (.int x1)] [] h (some (.int r.1)) r.2
  obtain ⟨-, hf⟩ := gK_of hf
  refine ev_aload_n i_X9_ofClass_0 rfl ?_
  obtain ⟨b1, e1, hf⟩ := ob hf
  refine ev_gR i_X9_ofClass_1 fl_X9_10 rfl e1 ?_
  refine ev_iload_n i_X9_ofClass_4 rfl ?_
  obtain ⟨r5, e5, hf⟩ := ob hf
  refine ev_cV_i i_X9_ofClass_5 lk_X9_ofClass_165 [.int x1] rfl rfl (by decide) (gK_of e5).1.1 (gK_of e5).1.2 (Nat.le_of_ble_eq_true rfl) (by decide) (e_X1_classOf e5) ?_
  cases hf
  exact ev_iiret i_X9_ofClass_8 rfl
def f_X9_way (h : MH) (a0 : Nat) (x1 : Int32) (x2 : Int32) (x3 : Int32) : Option (Int32 × MH) := gK h a0 9 ((gR h a0 9 0).bind fun b1 => (f_X1_hasMixture h b1 x1).bind fun v5 => (if v5 = 0 then (some ((-1 : Int32), h)) else ((gR h a0 9 0).bind fun b12 => (f_X1_hasHost h b12 x2).bind fun v16 => (if v16 = 0 then (some ((-1 : Int32), h)) else ((f_X9_isMark h x3).bind fun v23 => (if v23 = 0 then (some ((-1 : Int32), h)) else ((gR h a0 9 0).bind fun b32 => (gR h a0 9 5).bind fun b36 => (f_X1_trace h b32 b36 x1 x2 x3).bind fun h42 => (gR h42 a0 9 5).bind fun b46 => (f_X8_length h42 b46).bind fun v49 => some (v49, h42))))))))
set_option maxRecDepth 20000 in
theorem e_X9_way {G : GG} {h : MH} {a0 : Nat} {x1 : Int32} {x2 : Int32} {x3 : Int32} {r : (Int32 × MH)} (hf : f_X9_way h a0 x1 x2 x3 = some r) : Ev G 2 M_X9_way 0 (ent M_X9_way [.ref a0, .int x1, .int x2, .int x3]) [] h (some (.int r.1)) r.2 := by
  unfold f_X9_way at hf
  show Ev G 2 M_X9_way 0 [some (.ref a0), some (.int x1), some (.int x2), some (.int x3)] [] h (some (.int r.1)) r.2
  obtain ⟨-, hf⟩ := gK_of hf
  refine ev_aload_n i_X9_way_0 rfl ?_
  obtain ⟨b1, e1, hf⟩ := ob hf
  refine ev_gR i_X9_way_1 fl_X9_10 rfl e1 ?_
  refine ev_iload_n i_X9_way_4 rfl ?_
  obtain ⟨v5, e5, hf⟩ := ob hf
  refine ev_cV_i i_X9_way_5 lk_X9_way_169 [.int x1] rfl rfl (by decide) (gK_of e5).1.1 (gK_of e5).1.2 (Nat.le_of_ble_eq_true rfl) (by decide) (e_X1_hasMixture e5) ?_
  refine ev_if_eq (tg := 29) i_X9_way_8 (by decide) (fun c8 => ?_) (fun c8 => ?_)
  · rw [if_pos c8] at hf
    refine ev_iconst i_X9_way_29 lt_i_m1 ?_
    cases hf
    exact ev_iiret i_X9_way_30 rfl
  · rw [if_neg c8] at hf
    refine ev_aload_n i_X9_way_11 rfl ?_
    obtain ⟨b12, e12, hf⟩ := ob hf
    refine ev_gR i_X9_way_12 fl_X9_10 rfl e12 ?_
    refine ev_iload_n i_X9_way_15 rfl ?_
    obtain ⟨v16, e16, hf⟩ := ob hf
    refine ev_cV_i i_X9_way_16 lk_X9_way_119 [.int x2] rfl rfl (by decide) (gK_of e16).1.1 (gK_of e16).1.2 (Nat.le_of_ble_eq_true rfl) (by decide) (e_X1_hasHost e16) ?_
    refine ev_if_eq (tg := 29) i_X9_way_19 (by decide) (fun c19 => ?_) (fun c19 => ?_)
    · rw [if_pos c19] at hf
      refine ev_iconst i_X9_way_29 lt_i_m1 ?_
      cases hf
      exact ev_iiret i_X9_way_30 rfl
    · rw [if_neg c19] at hf
      refine ev_iload_n i_X9_way_22 rfl ?_
      obtain ⟨v23, e23, hf⟩ := ob hf
      refine ev_cS_i i_X9_way_23 lk_X9_way_172 [.int x3] rfl rfl (by decide) (Nat.le_of_ble_eq_true rfl) (by decide) (e_X9_isMark e23) ?_
      refine ev_if_ne (tg := 31) i_X9_way_26 (by decide) (fun c26 => ?_) (fun c26 => ?_)
      · rw [if_neg c26] at hf
        refine ev_aload_n i_X9_way_31 rfl ?_
        obtain ⟨b32, e32, hf⟩ := ob hf
        refine ev_gR i_X9_way_32 fl_X9_10 rfl e32 ?_
        refine ev_aload_n i_X9_way_35 rfl ?_
        obtain ⟨b36, e36, hf⟩ := ob hf
        refine ev_gR i_X9_way_36 fl_X9_53 rfl e36 ?_
        refine ev_iload_n i_X9_way_39 rfl ?_
        refine ev_iload_n i_X9_way_40 rfl ?_
        refine ev_iload_n i_X9_way_41 rfl ?_
        obtain ⟨h42, e42, hf⟩ := ob hf
        refine ev_cV_v i_X9_way_42 lk_X9_way_175 [.ref b36, .int x1, .int x2, .int x3] rfl rfl (by decide) (gK_of e42).1.1 (gK_of e42).1.2 (Nat.le_of_ble_eq_true rfl) (by decide) (e_X1_trace e42) ?_
        refine ev_aload_n i_X9_way_45 rfl ?_
        obtain ⟨b46, e46, hf⟩ := ob hf
        refine ev_gR i_X9_way_46 fl_X9_53 rfl e46 ?_
        obtain ⟨v49, e49, hf⟩ := ob hf
        refine ev_cV_i i_X9_way_49 lk_X9_way_179 [] rfl rfl (by decide) (gK_of e49).1.1 (gK_of e49).1.2 (Nat.le_of_ble_eq_true rfl) (by decide) (e_X8_length e49) ?_
        cases hf
        exact ev_iiret i_X9_way_52 rfl
      · rw [if_pos c26] at hf
        refine ev_iconst i_X9_way_29 lt_i_m1 ?_
        cases hf
        exact ev_iiret i_X9_way_30 rfl
def f_X9_on (h : MH) (a0 : Nat) (x1 : Int32) : Option Int32 := gK h a0 9 ((if x1 = (-1 : Int32) then ((gR h a0 9 5).bind fun b6 => (f_X8_end h b6).bind fun v9 => some v9) else ((gR h a0 9 5).bind fun b16 => (f_X8_stop h b16 x1).bind fun v20 => some v20)))
set_option maxRecDepth 20000 in
theorem e_X9_on {G : GG} {h : MH} {a0 : Nat} {x1 : Int32} {r : Int32} (hf : f_X9_on h a0 x1 = some r) : Ev G 1 M_X9_on 0 (ent M_X9_on [.ref a0, .int x1]) [] h (some (.int r)) h := by
  unfold f_X9_on at hf
  show Ev G 1 M_X9_on 0 [some (.ref a0), some (.int x1)] [] h (some (.int r)) h
  obtain ⟨-, hf⟩ := gK_of hf
  refine ev_iload_n i_X9_on_0 rfl ?_
  refine ev_iconst i_X9_on_1 lt_i_m1 ?_
  refine ev_icmp_ne (tg := 15) i_X9_on_2 (by decide) (fun c2 => ?_) (fun c2 => ?_)
  · rw [if_neg c2] at hf
    refine ev_aload_n i_X9_on_15 rfl ?_
    obtain ⟨b16, e16, hf⟩ := ob hf
    refine ev_gR i_X9_on_16 fl_X9_53 rfl e16 ?_
    refine ev_iload_n i_X9_on_19 rfl ?_
    obtain ⟨v20, e20, hf⟩ := ob hf
    refine ev_cV_i i_X9_on_20 lk_X9_on_185 [.int x1] rfl rfl (by decide) (gK_of e20).1.1 (gK_of e20).1.2 (Nat.le_of_ble_eq_true rfl) (by decide) (e_X8_stop e20) ?_
    cases hf
    exact ev_iiret i_X9_on_23 rfl
  · rw [if_pos c2] at hf
    refine ev_aload_n i_X9_on_5 rfl ?_
    obtain ⟨b6, e6, hf⟩ := ob hf
    refine ev_gR i_X9_on_6 fl_X9_53 rfl e6 ?_
    obtain ⟨v9, e9, hf⟩ := ob hf
    refine ev_cV_i i_X9_on_9 lk_X9_on_182 [] rfl rfl (by decide) (gK_of e9).1.1 (gK_of e9).1.2 (Nat.le_of_ble_eq_true rfl) (by decide) (e_X8_end e9) ?_
    refine ev_goto (tg := 23) i_X9_on_12 (by decide) ?_
    cases hf
    exact ev_iiret i_X9_on_23 rfl
def f_X9_holds (h : MH) (a0 : Nat) (x1 : Int32) (x2 : Int32) : Option (Int32 × MH) := gK h a0 9 ((gR h a0 9 1).bind fun b1 => (f_X0_hasWant h b1 x1).bind fun v5 => (if v5 = 0 then (some ((-1 : Int32), h)) else ((gR h a0 9 0).bind fun b12 => (f_X1_hasMixture h b12 x2).bind fun v16 => (if v16 = 0 then (some ((-1 : Int32), h)) else ((gR h a0 9 1).bind fun b25 => (f_X0_leastBadMark h b25 x1 x2).bind fun r30 => (if r30.1 = (-1 : Int32) then (some ((1 : Int32), r30.2)) else (some ((0 : Int32), r30.2))))))))
set_option maxRecDepth 20000 in
theorem e_X9_holds {G : GG} {h : MH} {a0 : Nat} {x1 : Int32} {x2 : Int32} {r : (Int32 × MH)} (hf : f_X9_holds h a0 x1 x2 = some r) : Ev G 4 M_X9_holds 0 (ent M_X9_holds [.ref a0, .int x1, .int x2]) [] h (some (.int r.1)) r.2 := by
  unfold f_X9_holds at hf
  show Ev G 4 M_X9_holds 0 [some (.ref a0), some (.int x1), some (.int x2)] [] h (some (.int r.1)) r.2
  obtain ⟨-, hf⟩ := gK_of hf
  refine ev_aload_n i_X9_holds_0 rfl ?_
  obtain ⟨b1, e1, hf⟩ := ob hf
  refine ev_gR i_X9_holds_1 fl_X9_21 rfl e1 ?_
  refine ev_iload_n i_X9_holds_4 rfl ?_
  obtain ⟨v5, e5, hf⟩ := ob hf
  refine ev_cV_i i_X9_holds_5 lk_X9_holds_188 [.int x1] rfl rfl (by decide) (gK_of e5).1.1 (gK_of e5).1.2 (Nat.le_of_ble_eq_true rfl) (by decide) (e_X0_hasWant e5) ?_
  refine ev_if_eq (tg := 22) i_X9_holds_8 (by decide) (fun c8 => ?_) (fun c8 => ?_)
  · rw [if_pos c8] at hf
    refine ev_iconst i_X9_holds_22 lt_i_m1 ?_
    cases hf
    exact ev_iiret i_X9_holds_23 rfl
  · rw [if_neg c8] at hf
    refine ev_aload_n i_X9_holds_11 rfl ?_
    obtain ⟨b12, e12, hf⟩ := ob hf
    refine ev_gR i_X9_holds_12 fl_X9_10 rfl e12 ?_
    refine ev_iload_n i_X9_holds_15 rfl ?_
    obtain ⟨v16, e16, hf⟩ := ob hf
    refine ev_cV_i i_X9_holds_16 lk_X9_holds_169 [.int x2] rfl rfl (by decide) (gK_of e16).1.1 (gK_of e16).1.2 (Nat.le_of_ble_eq_true rfl) (by decide) (e_X1_hasMixture e16) ?_
    refine ev_if_ne (tg := 24) i_X9_holds_19 (by decide) (fun c19 => ?_) (fun c19 => ?_)
    · rw [if_neg c19] at hf
      refine ev_aload_n i_X9_holds_24 rfl ?_
      obtain ⟨b25, e25, hf⟩ := ob hf
      refine ev_gR i_X9_holds_25 fl_X9_21 rfl e25 ?_
      refine ev_iload_n i_X9_holds_28 rfl ?_
      refine ev_iload_n i_X9_holds_29 rfl ?_
      obtain ⟨r30, e30, hf⟩ := ob hf
      refine ev_cV_i i_X9_holds_30 lk_X9_holds_191 [.int x1, .int x2] rfl rfl (by decide) (gK_of e30).1.1 (gK_of e30).1.2 (Nat.le_of_ble_eq_true rfl) (by decide) (e_X0_leastBadMark e30) ?_
      refine ev_iconst i_X9_holds_33 lt_i_m1 ?_
      refine ev_icmp_ne (tg := 41) i_X9_holds_34 (by decide) (fun c34 => ?_) (fun c34 => ?_)
      · rw [if_neg c34] at hf
        refine ev_iconst i_X9_holds_41 lt_i_0 ?_
        cases hf
        exact ev_iiret i_X9_holds_42 rfl
      · rw [if_pos c34] at hf
        refine ev_iconst i_X9_holds_37 lt_i_1 ?_
        refine ev_goto (tg := 42) i_X9_holds_38 (by decide) ?_
        cases hf
        exact ev_iiret i_X9_holds_42 rfl
    · rw [if_pos c19] at hf
      refine ev_iconst i_X9_holds_22 lt_i_m1 ?_
      cases hf
      exact ev_iiret i_X9_holds_23 rfl
def f_X9_kept (h : MH) (a0 : Nat) (x1 : Int32) : Option (Int32 × MH) := gK h a0 9 ((gR h a0 9 1).bind fun b1 => (f_X0_hasWant h b1 x1).bind fun v5 => (if v5 = 0 then (some ((-1 : Int32), h)) else ((gR h a0 9 1).bind fun b14 => (f_X0_isKept h b14 x1).bind fun r18 => (if r18.1 = 0 then (some ((0 : Int32), r18.2)) else (some ((1 : Int32), r18.2))))))
set_option maxRecDepth 20000 in
theorem e_X9_kept {G : GG} {h : MH} {a0 : Nat} {x1 : Int32} {r : (Int32 × MH)} (hf : f_X9_kept h a0 x1 = some r) : Ev G 6 M_X9_kept 0 (ent M_X9_kept [.ref a0, .int x1]) [] h (some (.int r.1)) r.2 := by
  unfold f_X9_kept at hf
  show Ev G 6 M_X9_kept 0 [some (.ref a0), some (.int x1)] [] h (some (.int r.1)) r.2
  obtain ⟨-, hf⟩ := gK_of hf
  refine ev_aload_n i_X9_kept_0 rfl ?_
  obtain ⟨b1, e1, hf⟩ := ob hf
  refine ev_gR i_X9_kept_1 fl_X9_21 rfl e1 ?_
  refine ev_iload_n i_X9_kept_4 rfl ?_
  obtain ⟨v5, e5, hf⟩ := ob hf
  refine ev_cV_i i_X9_kept_5 lk_X9_kept_188 [.int x1] rfl rfl (by decide) (gK_of e5).1.1 (gK_of e5).1.2 (Nat.le_of_ble_eq_true rfl) (by decide) (e_X0_hasWant e5) ?_
  refine ev_if_ne (tg := 13) i_X9_kept_8 (by decide) (fun c8 => ?_) (fun c8 => ?_)
  · rw [if_neg c8] at hf
    refine ev_aload_n i_X9_kept_13 rfl ?_
    obtain ⟨b14, e14, hf⟩ := ob hf
    refine ev_gR i_X9_kept_14 fl_X9_21 rfl e14 ?_
    refine ev_iload_n i_X9_kept_17 rfl ?_
    obtain ⟨r18, e18, hf⟩ := ob hf
    refine ev_cV_i i_X9_kept_18 lk_X9_kept_194 [.int x1] rfl rfl (by decide) (gK_of e18).1.1 (gK_of e18).1.2 (Nat.le_of_ble_eq_true rfl) (by decide) (e_X0_isKept e18) ?_
    refine ev_if_eq (tg := 28) i_X9_kept_21 (by decide) (fun c21 => ?_) (fun c21 => ?_)
    · rw [if_pos c21] at hf
      refine ev_iconst i_X9_kept_28 lt_i_0 ?_
      cases hf
      exact ev_iiret i_X9_kept_29 rfl
    · rw [if_neg c21] at hf
      refine ev_iconst i_X9_kept_24 lt_i_1 ?_
      refine ev_goto (tg := 29) i_X9_kept_25 (by decide) ?_
      cases hf
      exact ev_iiret i_X9_kept_29 rfl
  · rw [if_pos c8] at hf
    refine ev_iconst i_X9_kept_11 lt_i_m1 ?_
    cases hf
    exact ev_iiret i_X9_kept_12 rfl
def f_X9_why_j22 (h : MH) (a0 : Nat) (x1 : Int32) (x2 : Int32) : Option (Int32 × MH) := (gR h a0 9 1).bind fun b23 => (f_X0_firstBroken h b23 x1).bind fun r27 => (if r27.1 = (-1 : Int32) then (some (r27.1, r27.2)) else ((if x2 = 0 then (some (r27.1, r27.2)) else ((gR r27.2 a0 9 1).bind fun b43 => (f_X0_leastBadMark r27.2 b43 r27.1 x1).bind fun r48 => some (r48.1, r48.2)))))
set_option maxRecDepth 20000 in
theorem j_X9_why_22 {G : GG} {h : MH} {a0 : Nat} {x1 : Int32} {x2 : Int32} {r : (Int32 × MH)} (hf : f_X9_why_j22 h a0 x1 x2 = some r) : Ev G 6 M_X9_why 22 [some (.ref a0), some (.int x1), some (.int x2), none] [] h (some (.int r.1)) r.2 := by
  unfold f_X9_why_j22 at hf
  refine ev_aload_n i_X9_why_22 rfl ?_
  obtain ⟨b23, e23, hf⟩ := ob hf
  refine ev_gR i_X9_why_23 fl_X9_21 rfl e23 ?_
  refine ev_iload_n i_X9_why_26 rfl ?_
  obtain ⟨r27, e27, hf⟩ := ob hf
  refine ev_cV_i i_X9_why_27 lk_X9_why_197 [.int x1] rfl rfl (by decide) (gK_of e27).1.1 (gK_of e27).1.2 (Nat.le_of_ble_eq_true rfl) (by decide) (e_X0_firstBroken e27) ?_
  refine ev_istore_n i_X9_why_30 (by decide) ?_
  refine ev_iload_n i_X9_why_31 rfl ?_
  refine ev_iconst i_X9_why_32 lt_i_m1 ?_
  refine ev_icmp_eq (tg := 40) i_X9_why_33 (by decide) (fun c33 => ?_) (fun c33 => ?_)
  · rw [if_pos c33] at hf
    refine ev_iload_n i_X9_why_40 rfl ?_
    cases hf
    exact ev_iiret i_X9_why_41 rfl
  · rw [if_neg c33] at hf
    refine ev_iload_n i_X9_why_36 rfl ?_
    refine ev_if_ne (tg := 42) i_X9_why_37 (by decide) (fun c37 => ?_) (fun c37 => ?_)
    · rw [if_neg c37] at hf
      refine ev_aload_n i_X9_why_42 rfl ?_
      obtain ⟨b43, e43, hf⟩ := ob hf
      refine ev_gR i_X9_why_43 fl_X9_21 rfl e43 ?_
      refine ev_iload_n i_X9_why_46 rfl ?_
      refine ev_iload_n i_X9_why_47 rfl ?_
      obtain ⟨r48, e48, hf⟩ := ob hf
      refine ev_cV_i i_X9_why_48 lk_X9_why_191 [.int r27.1, .int x1] rfl rfl (by decide) (gK_of e48).1.1 (gK_of e48).1.2 (Nat.le_of_ble_eq_true rfl) (by decide) (e_X0_leastBadMark e48) ?_
      cases hf
      exact ev_iiret i_X9_why_51 rfl
    · rw [if_pos c37] at hf
      refine ev_iload_n i_X9_why_40 rfl ?_
      cases hf
      exact ev_iiret i_X9_why_41 rfl
def f_X9_why (h : MH) (a0 : Nat) (x1 : Int32) (x2 : Int32) : Option (Int32 × MH) := gK h a0 9 ((gR h a0 9 0).bind fun b1 => (f_X1_hasMixture h b1 x1).bind fun v5 => (if v5 = 0 then (some ((-1 : Int32), h)) else ((if x2 = 0 then (f_X9_why_j22 h a0 x1 x2) else ((if x2 = (1 : Int32) then (f_X9_why_j22 h a0 x1 x2) else (some ((-1 : Int32), h))))))))
set_option maxRecDepth 20000 in
theorem e_X9_why {G : GG} {h : MH} {a0 : Nat} {x1 : Int32} {x2 : Int32} {r : (Int32 × MH)} (hf : f_X9_why h a0 x1 x2 = some r) : Ev G 6 M_X9_why 0 (ent M_X9_why [.ref a0, .int x1, .int x2]) [] h (some (.int r.1)) r.2 := by
  unfold f_X9_why at hf
  show Ev G 6 M_X9_why 0 [some (.ref a0), some (.int x1), some (.int x2), none] [] h (some (.int r.1)) r.2
  obtain ⟨-, hf⟩ := gK_of hf
  refine ev_aload_n i_X9_why_0 rfl ?_
  obtain ⟨b1, e1, hf⟩ := ob hf
  refine ev_gR i_X9_why_1 fl_X9_10 rfl e1 ?_
  refine ev_iload_n i_X9_why_4 rfl ?_
  obtain ⟨v5, e5, hf⟩ := ob hf
  refine ev_cV_i i_X9_why_5 lk_X9_why_169 [.int x1] rfl rfl (by decide) (gK_of e5).1.1 (gK_of e5).1.2 (Nat.le_of_ble_eq_true rfl) (by decide) (e_X1_hasMixture e5) ?_
  refine ev_if_eq (tg := 20) i_X9_why_8 (by decide) (fun c8 => ?_) (fun c8 => ?_)
  · rw [if_pos c8] at hf
    refine ev_iconst i_X9_why_20 lt_i_m1 ?_
    cases hf
    exact ev_iiret i_X9_why_21 rfl
  · rw [if_neg c8] at hf
    refine ev_iload_n i_X9_why_11 rfl ?_
    refine ev_if_eq (tg := 22) i_X9_why_12 (by decide) (fun c12 => ?_) (fun c12 => ?_)
    · rw [if_pos c12] at hf
      exact j_X9_why_22 hf
    · rw [if_neg c12] at hf
      refine ev_iload_n i_X9_why_15 rfl ?_
      refine ev_iconst i_X9_why_16 lt_i_1 ?_
      refine ev_icmp_eq (tg := 22) i_X9_why_17 (by decide) (fun c17 => ?_) (fun c17 => ?_)
      · rw [if_pos c17] at hf
        exact j_X9_why_22 hf
      · rw [if_neg c17] at hf
        refine ev_iconst i_X9_why_20 lt_i_m1 ?_
        cases hf
        exact ev_iiret i_X9_why_21 rfl
def f_X9_least (h : MH) (a0 : Nat) : Option (Int32 × MH) := gK h a0 9 ((gR h a0 9 3).bind fun b1 => (gR h a0 9 2).bind fun b5 => (f_X4_makeLeast h b1 b5).bind fun r8 => (if r8.1 = 0 then (some ((-1 : Int32), r8.2)) else ((gR r8.2 a0 9 4).bind fun b17 => (f_X6_stop r8.2 b17).bind fun h20 => (gR h20 a0 9 2).bind fun b24 => (f_X3_size h20 b24).bind fun v27 => some (v27, h20))))
set_option maxRecDepth 20000 in
theorem e_X9_least {G : GG} {h : MH} {a0 : Nat} {r : (Int32 × MH)} (hf : f_X9_least h a0 = some r) : Ev G 7 M_X9_least 0 (ent M_X9_least [.ref a0]) [] h (some (.int r.1)) r.2 := by
  unfold f_X9_least at hf
  show Ev G 7 M_X9_least 0 [some (.ref a0)] [] h (some (.int r.1)) r.2
  obtain ⟨-, hf⟩ := gK_of hf
  refine ev_aload_n i_X9_least_0 rfl ?_
  obtain ⟨b1, e1, hf⟩ := ob hf
  refine ev_gR i_X9_least_1 fl_X9_37 rfl e1 ?_
  refine ev_aload_n i_X9_least_4 rfl ?_
  obtain ⟨b5, e5, hf⟩ := ob hf
  refine ev_gR i_X9_least_5 fl_X9_28 rfl e5 ?_
  obtain ⟨r8, e8, hf⟩ := ob hf
  refine ev_cV_i i_X9_least_8 lk_X9_least_200 [.ref b5] rfl rfl (by decide) (gK_of e8).1.1 (gK_of e8).1.2 (Nat.le_of_ble_eq_true rfl) (by decide) (e_X4_makeLeast e8) ?_
  refine ev_if_ne (tg := 16) i_X9_least_11 (by decide) (fun c11 => ?_) (fun c11 => ?_)
  · rw [if_neg c11] at hf
    refine ev_aload_n i_X9_least_16 rfl ?_
    obtain ⟨b17, e17, hf⟩ := ob hf
    refine ev_gR i_X9_least_17 fl_X9_46 rfl e17 ?_
    obtain ⟨h20, e20, hf⟩ := ob hf
    refine ev_cV_v i_X9_least_20 lk_X9_least_204 [] rfl rfl (by decide) (gK_of e20).1.1 (gK_of e20).1.2 (Nat.le_of_ble_eq_true rfl) (by decide) (e_X6_stop e20) ?_
    refine ev_aload_n i_X9_least_23 rfl ?_
    obtain ⟨b24, e24, hf⟩ := ob hf
    refine ev_gR i_X9_least_24 fl_X9_28 rfl e24 ?_
    obtain ⟨v27, e27, hf⟩ := ob hf
    refine ev_cV_i i_X9_least_27 lk_X9_least_161 [] rfl rfl (by decide) (gK_of e27).1.1 (gK_of e27).1.2 (Nat.le_of_ble_eq_true rfl) (by decide) (e_X3_size e27) ?_
    cases hf
    exact ev_iiret i_X9_least_30 rfl
  · rw [if_pos c11] at hf
    refine ev_iconst i_X9_least_14 lt_i_m1 ?_
    cases hf
    exact ev_iiret i_X9_least_15 rfl
def f_X9_orders (h : MH) (a0 : Nat) : Option (Int32 × MH) := gK h a0 9 ((gR h a0 9 3).bind fun b1 => (f_X4_countOrders h b1).bind fun r4 => some (r4.1, r4.2))
set_option maxRecDepth 20000 in
theorem e_X9_orders {G : GG} {h : MH} {a0 : Nat} {r : (Int32 × MH)} (hf : f_X9_orders h a0 = some r) : Ev G 7 M_X9_orders 0 (ent M_X9_orders [.ref a0]) [] h (some (.int r.1)) r.2 := by
  unfold f_X9_orders at hf
  show Ev G 7 M_X9_orders 0 [some (.ref a0)] [] h (some (.int r.1)) r.2
  obtain ⟨-, hf⟩ := gK_of hf
  refine ev_aload_n i_X9_orders_0 rfl ?_
  obtain ⟨b1, e1, hf⟩ := ob hf
  refine ev_gR i_X9_orders_1 fl_X9_37 rfl e1 ?_
  obtain ⟨r4, e4, hf⟩ := ob hf
  refine ev_cV_i i_X9_orders_4 lk_X9_orders_206 [] rfl rfl (by decide) (gK_of e4).1.1 (gK_of e4).1.2 (Nat.le_of_ble_eq_true rfl) (by decide) (e_X4_countOrders e4) ?_
  cases hf
  exact ev_iiret i_X9_orders_7 rfl
def f_X9_order (h : MH) (a0 : Nat) (x1 : Int32) : Option (Int32 × MH) := gK h a0 9 ((gR h a0 9 3).bind fun b1 => (gR h a0 9 2).bind fun b5 => (f_X4_makeOrder h b1 b5 x1).bind fun r9 => (if r9.1 = 0 then (some ((0 : Int32), r9.2)) else ((gR r9.2 a0 9 4).bind fun b18 => (f_X6_stop r9.2 b18).bind fun h21 => some ((1 : Int32), h21))))
set_option maxRecDepth 20000 in
theorem e_X9_order {G : GG} {h : MH} {a0 : Nat} {x1 : Int32} {r : (Int32 × MH)} (hf : f_X9_order h a0 x1 = some r) : Ev G 7 M_X9_order 0 (ent M_X9_order [.ref a0, .int x1]) [] h (some (.int r.1)) r.2 := by
  unfold f_X9_order at hf
  show Ev G 7 M_X9_order 0 [some (.ref a0), some (.int x1)] [] h (some (.int r.1)) r.2
  obtain ⟨-, hf⟩ := gK_of hf
  refine ev_aload_n i_X9_order_0 rfl ?_
  obtain ⟨b1, e1, hf⟩ := ob hf
  refine ev_gR i_X9_order_1 fl_X9_37 rfl e1 ?_
  refine ev_aload_n i_X9_order_4 rfl ?_
  obtain ⟨b5, e5, hf⟩ := ob hf
  refine ev_gR i_X9_order_5 fl_X9_28 rfl e5 ?_
  refine ev_iload_n i_X9_order_8 rfl ?_
  obtain ⟨r9, e9, hf⟩ := ob hf
  refine ev_cV_i i_X9_order_9 lk_X9_order_209 [.ref b5, .int x1] rfl rfl (by decide) (gK_of e9).1.1 (gK_of e9).1.2 (Nat.le_of_ble_eq_true rfl) (by decide) (e_X4_makeOrder e9) ?_
  refine ev_if_ne (tg := 17) i_X9_order_12 (by decide) (fun c12 => ?_) (fun c12 => ?_)
  · rw [if_neg c12] at hf
    refine ev_aload_n i_X9_order_17 rfl ?_
    obtain ⟨b18, e18, hf⟩ := ob hf
    refine ev_gR i_X9_order_18 fl_X9_46 rfl e18 ?_
    obtain ⟨h21, e21, hf⟩ := ob hf
    refine ev_cV_v i_X9_order_21 lk_X9_order_204 [] rfl rfl (by decide) (gK_of e21).1.1 (gK_of e21).1.2 (Nat.le_of_ble_eq_true rfl) (by decide) (e_X6_stop e21) ?_
    refine ev_iconst i_X9_order_24 lt_i_1 ?_
    cases hf
    exact ev_zret i_X9_order_25 rfl (by decide)
  · rw [if_pos c12] at hf
    refine ev_iconst i_X9_order_15 lt_i_0 ?_
    cases hf
    exact ev_zret i_X9_order_16 rfl (by decide)
def f_X9_round (h : MH) (a0 : Nat) (x1 : Int32) : Option (Int32 × MH) := gK h a0 9 ((gR h a0 9 0).bind fun b1 => (f_X1_unlike h b1).bind fun v4 => (gR h a0 9 2).bind fun b8 => (f_X3_members h b8).bind fun v11 => (if x1 = 0 then (some ((-1 : Int32), h)) else ((if (x1 &&& ((v4 &&& (v11 ^^^ (-1 : Int32))) ^^^ (-1 : Int32))) = 0 then ((gR h a0 9 2).bind fun b33 => (f_X3_add h b33 x1).bind fun h37 => (gR h37 a0 9 4).bind fun b41 => (f_X6_stop h37 b41).bind fun h44 => (gR h44 a0 9 2).bind fun b48 => (f_X3_size h44 b48).bind fun v51 => some (v51, h44)) else (some ((-1 : Int32), h))))))
set_option maxRecDepth 20000 in
theorem e_X9_round {G : GG} {h : MH} {a0 : Nat} {x1 : Int32} {r : (Int32 × MH)} (hf : f_X9_round h a0 x1 = some r) : Ev G 2 M_X9_round 0 (ent M_X9_round [.ref a0, .int x1]) [] h (some (.int r.1)) r.2 := by
  unfold f_X9_round at hf
  show Ev G 2 M_X9_round 0 [some (.ref a0), some (.int x1), none] [] h (some (.int r.1)) r.2
  obtain ⟨-, hf⟩ := gK_of hf
  refine ev_aload_n i_X9_round_0 rfl ?_
  obtain ⟨b1, e1, hf⟩ := ob hf
  refine ev_gR i_X9_round_1 fl_X9_10 rfl e1 ?_
  obtain ⟨v4, e4, hf⟩ := ob hf
  refine ev_cV_i i_X9_round_4 lk_X9_round_152 [] rfl rfl (by decide) (gK_of e4).1.1 (gK_of e4).1.2 (Nat.le_of_ble_eq_true rfl) (by decide) (e_X1_unlike e4) ?_
  refine ev_aload_n i_X9_round_7 rfl ?_
  obtain ⟨b8, e8, hf⟩ := ob hf
  refine ev_gR i_X9_round_8 fl_X9_28 rfl e8 ?_
  obtain ⟨v11, e11, hf⟩ := ob hf
  refine ev_cV_i i_X9_round_11 lk_X9_round_162 [] rfl rfl (by decide) (gK_of e11).1.1 (gK_of e11).1.2 (Nat.le_of_ble_eq_true rfl) (by decide) (e_X3_members e11) ?_
  refine ev_iconst i_X9_round_14 lt_i_m1 ?_
  refine ev_ixor i_X9_round_15 ?_
  refine ev_iand i_X9_round_16 ?_
  refine ev_istore_n i_X9_round_17 (by decide) ?_
  refine ev_iload_n i_X9_round_18 rfl ?_
  refine ev_if_eq (tg := 30) i_X9_round_19 (by decide) (fun c19 => ?_) (fun c19 => ?_)
  · rw [if_pos c19] at hf
    refine ev_iconst i_X9_round_30 lt_i_m1 ?_
    cases hf
    exact ev_iiret i_X9_round_31 rfl
  · rw [if_neg c19] at hf
    refine ev_iload_n i_X9_round_22 rfl ?_
    refine ev_iload_n i_X9_round_23 rfl ?_
    refine ev_iconst i_X9_round_24 lt_i_m1 ?_
    refine ev_ixor i_X9_round_25 ?_
    refine ev_iand i_X9_round_26 ?_
    refine ev_if_eq (tg := 32) i_X9_round_27 (by decide) (fun c27 => ?_) (fun c27 => ?_)
    · rw [if_pos c27] at hf
      refine ev_aload_n i_X9_round_32 rfl ?_
      obtain ⟨b33, e33, hf⟩ := ob hf
      refine ev_gR i_X9_round_33 fl_X9_28 rfl e33 ?_
      refine ev_iload_n i_X9_round_36 rfl ?_
      obtain ⟨h37, e37, hf⟩ := ob hf
      refine ev_cV_v i_X9_round_37 lk_X9_round_213 [.int x1] rfl rfl (by decide) (gK_of e37).1.1 (gK_of e37).1.2 (Nat.le_of_ble_eq_true rfl) (by decide) (e_X3_add e37) ?_
      refine ev_aload_n i_X9_round_40 rfl ?_
      obtain ⟨b41, e41, hf⟩ := ob hf
      refine ev_gR i_X9_round_41 fl_X9_46 rfl e41 ?_
      obtain ⟨h44, e44, hf⟩ := ob hf
      refine ev_cV_v i_X9_round_44 lk_X9_round_204 [] rfl rfl (by decide) (gK_of e44).1.1 (gK_of e44).1.2 (Nat.le_of_ble_eq_true rfl) (by decide) (e_X6_stop e44) ?_
      refine ev_aload_n i_X9_round_47 rfl ?_
      obtain ⟨b48, e48, hf⟩ := ob hf
      refine ev_gR i_X9_round_48 fl_X9_28 rfl e48 ?_
      obtain ⟨v51, e51, hf⟩ := ob hf
      refine ev_cV_i i_X9_round_51 lk_X9_round_161 [] rfl rfl (by decide) (gK_of e51).1.1 (gK_of e51).1.2 (Nat.le_of_ble_eq_true rfl) (by decide) (e_X3_size e51) ?_
      cases hf
      exact ev_iiret i_X9_round_54 rfl
    · rw [if_neg c27] at hf
      refine ev_iconst i_X9_round_30 lt_i_m1 ?_
      cases hf
      exact ev_iiret i_X9_round_31 rfl
def f_X9_empty (h : MH) (a0 : Nat) : Option MH := gK h a0 9 ((gR h a0 9 2).bind fun b1 => (f_X3_clear h b1).bind fun h4 => (gR h4 a0 9 4).bind fun b8 => (f_X6_stop h4 b8).bind fun h11 => some h11)
set_option maxRecDepth 20000 in
theorem e_X9_empty {G : GG} {h : MH} {a0 : Nat} {r : MH} (hf : f_X9_empty h a0 = some r) : Ev G 1 M_X9_empty 0 (ent M_X9_empty [.ref a0]) [] h none r := by
  unfold f_X9_empty at hf
  show Ev G 1 M_X9_empty 0 [some (.ref a0)] [] h none r
  obtain ⟨-, hf⟩ := gK_of hf
  refine ev_aload_n i_X9_empty_0 rfl ?_
  obtain ⟨b1, e1, hf⟩ := ob hf
  refine ev_gR i_X9_empty_1 fl_X9_28 rfl e1 ?_
  obtain ⟨h4, e4, hf⟩ := ob hf
  refine ev_cV_v i_X9_empty_4 lk_X9_empty_215 [] rfl rfl (by decide) (gK_of e4).1.1 (gK_of e4).1.2 (Nat.le_of_ble_eq_true rfl) (by decide) (e_X3_clear e4) ?_
  refine ev_aload_n i_X9_empty_7 rfl ?_
  obtain ⟨b8, e8, hf⟩ := ob hf
  refine ev_gR i_X9_empty_8 fl_X9_46 rfl e8 ?_
  obtain ⟨h11, e11, hf⟩ := ob hf
  refine ev_cV_v i_X9_empty_11 lk_X9_empty_204 [] rfl rfl (by decide) (gK_of e11).1.1 (gK_of e11).1.2 (Nat.le_of_ble_eq_true rfl) (by decide) (e_X6_stop e11) ?_
  cases hf
  exact ev_vret i_X9_empty_14 rfl
def f_X9_plan (h : MH) (a0 : Nat) (x1 : Int32) : Option Int32 := gK h a0 9 ((gR h a0 9 2).bind fun b1 => (f_X3_has h b1 x1).bind fun v5 => (if v5 = 0 then (some (-1 : Int32)) else ((gR h a0 9 2).bind fun b12 => (f_X3_get h b12 x1).bind fun v16 => some v16)))
set_option maxRecDepth 20000 in
theorem e_X9_plan {G : GG} {h : MH} {a0 : Nat} {x1 : Int32} {r : Int32} (hf : f_X9_plan h a0 x1 = some r) : Ev G 2 M_X9_plan 0 (ent M_X9_plan [.ref a0, .int x1]) [] h (some (.int r)) h := by
  unfold f_X9_plan at hf
  show Ev G 2 M_X9_plan 0 [some (.ref a0), some (.int x1)] [] h (some (.int r)) h
  obtain ⟨-, hf⟩ := gK_of hf
  refine ev_aload_n i_X9_plan_0 rfl ?_
  obtain ⟨b1, e1, hf⟩ := ob hf
  refine ev_gR i_X9_plan_1 fl_X9_28 rfl e1 ?_
  refine ev_iload_n i_X9_plan_4 rfl ?_
  obtain ⟨v5, e5, hf⟩ := ob hf
  refine ev_cV_i i_X9_plan_5 lk_X9_plan_217 [.int x1] rfl rfl (by decide) (gK_of e5).1.1 (gK_of e5).1.2 (Nat.le_of_ble_eq_true rfl) (by decide) (e_X3_has e5) ?_
  refine ev_if_eq (tg := 22) i_X9_plan_8 (by decide) (fun c8 => ?_) (fun c8 => ?_)
  · rw [if_pos c8] at hf
    refine ev_iconst i_X9_plan_22 lt_i_m1 ?_
    cases hf
    exact ev_iiret i_X9_plan_23 rfl
  · rw [if_neg c8] at hf
    refine ev_aload_n i_X9_plan_11 rfl ?_
    obtain ⟨b12, e12, hf⟩ := ob hf
    refine ev_gR i_X9_plan_12 fl_X9_28 rfl e12 ?_
    refine ev_iload_n i_X9_plan_15 rfl ?_
    obtain ⟨v16, e16, hf⟩ := ob hf
    refine ev_cV_i i_X9_plan_16 lk_X9_plan_220 [.int x1] rfl rfl (by decide) (gK_of e16).1.1 (gK_of e16).1.2 (Nat.le_of_ble_eq_true rfl) (by decide) (e_X3_get e16) ?_
    refine ev_goto (tg := 23) i_X9_plan_19 (by decide) ?_
    cases hf
    exact ev_iiret i_X9_plan_23 rfl
def f_X9_mid (h : MH) (a0 : Nat) (x1 : Int32) : Option (Int32 × MH) := gK h a0 9 ((gR h a0 9 2).bind fun b1 => (f_X3_has h b1 x1).bind fun v5 => (if v5 = 0 then (some ((-1 : Int32), h)) else ((gR h a0 9 3).bind fun b14 => (gR h a0 9 2).bind fun b18 => (f_X3_membersAhead h b18 x1).bind fun v22 => (gR h a0 9 2).bind fun b26 => (f_X3_get h b26 x1).bind fun v30 => (f_X4_whyNotTaken h b14 v22 v30).bind fun r33 => some (r33.1, r33.2))))
set_option maxRecDepth 20000 in
theorem e_X9_mid {G : GG} {h : MH} {a0 : Nat} {x1 : Int32} {r : (Int32 × MH)} (hf : f_X9_mid h a0 x1 = some r) : Ev G 7 M_X9_mid 0 (ent M_X9_mid [.ref a0, .int x1]) [] h (some (.int r.1)) r.2 := by
  unfold f_X9_mid at hf
  show Ev G 7 M_X9_mid 0 [some (.ref a0), some (.int x1)] [] h (some (.int r.1)) r.2
  obtain ⟨-, hf⟩ := gK_of hf
  refine ev_aload_n i_X9_mid_0 rfl ?_
  obtain ⟨b1, e1, hf⟩ := ob hf
  refine ev_gR i_X9_mid_1 fl_X9_28 rfl e1 ?_
  refine ev_iload_n i_X9_mid_4 rfl ?_
  obtain ⟨v5, e5, hf⟩ := ob hf
  refine ev_cV_i i_X9_mid_5 lk_X9_mid_217 [.int x1] rfl rfl (by decide) (gK_of e5).1.1 (gK_of e5).1.2 (Nat.le_of_ble_eq_true rfl) (by decide) (e_X3_has e5) ?_
  refine ev_if_ne (tg := 13) i_X9_mid_8 (by decide) (fun c8 => ?_) (fun c8 => ?_)
  · rw [if_neg c8] at hf
    refine ev_aload_n i_X9_mid_13 rfl ?_
    obtain ⟨b14, e14, hf⟩ := ob hf
    refine ev_gR i_X9_mid_14 fl_X9_37 rfl e14 ?_
    refine ev_aload_n i_X9_mid_17 rfl ?_
    obtain ⟨b18, e18, hf⟩ := ob hf
    refine ev_gR i_X9_mid_18 fl_X9_28 rfl e18 ?_
    refine ev_iload_n i_X9_mid_21 rfl ?_
    obtain ⟨v22, e22, hf⟩ := ob hf
    refine ev_cV_i i_X9_mid_22 lk_X9_mid_223 [.int x1] rfl rfl (by decide) (gK_of e22).1.1 (gK_of e22).1.2 (Nat.le_of_ble_eq_true rfl) (by decide) (e_X3_membersAhead e22) ?_
    refine ev_aload_n i_X9_mid_25 rfl ?_
    obtain ⟨b26, e26, hf⟩ := ob hf
    refine ev_gR i_X9_mid_26 fl_X9_28 rfl e26 ?_
    refine ev_iload_n i_X9_mid_29 rfl ?_
    obtain ⟨v30, e30, hf⟩ := ob hf
    refine ev_cV_i i_X9_mid_30 lk_X9_mid_220 [.int x1] rfl rfl (by decide) (gK_of e30).1.1 (gK_of e30).1.2 (Nat.le_of_ble_eq_true rfl) (by decide) (e_X3_get e30) ?_
    obtain ⟨r33, e33, hf⟩ := ob hf
    refine ev_cV_i i_X9_mid_33 lk_X9_mid_226 [.int v22, .int v30] rfl rfl (by decide) (gK_of e33).1.1 (gK_of e33).1.2 (Nat.le_of_ble_eq_true rfl) (by decide) (e_X4_whyNotTaken e33) ?_
    cases hf
    exact ev_iiret i_X9_mid_36 rfl
  · rw [if_pos c8] at hf
    refine ev_iconst i_X9_mid_11 lt_i_m1 ?_
    cases hf
    exact ev_iiret i_X9_mid_12 rfl
def f_X9_begin (h : MH) (a0 : Nat) : Option (Int32 × MH) := gK h a0 9 ((gR h a0 9 2).bind fun b1 => (f_X3_size h b1).bind fun v4 => (if v4 = 0 then (some ((0 : Int32), h)) else ((gR h a0 9 4).bind fun b13 => (f_X6_start h b13).bind fun h16 => some ((1 : Int32), h16))))
set_option maxRecDepth 20000 in
theorem e_X9_begin {G : GG} {h : MH} {a0 : Nat} {r : (Int32 × MH)} (hf : f_X9_begin h a0 = some r) : Ev G 1 M_X9_begin 0 (ent M_X9_begin [.ref a0]) [] h (some (.int r.1)) r.2 := by
  unfold f_X9_begin at hf
  show Ev G 1 M_X9_begin 0 [some (.ref a0)] [] h (some (.int r.1)) r.2
  obtain ⟨-, hf⟩ := gK_of hf
  refine ev_aload_n i_X9_begin_0 rfl ?_
  obtain ⟨b1, e1, hf⟩ := ob hf
  refine ev_gR i_X9_begin_1 fl_X9_28 rfl e1 ?_
  obtain ⟨v4, e4, hf⟩ := ob hf
  refine ev_cV_i i_X9_begin_4 lk_X9_begin_161 [] rfl rfl (by decide) (gK_of e4).1.1 (gK_of e4).1.2 (Nat.le_of_ble_eq_true rfl) (by decide) (e_X3_size e4) ?_
  refine ev_if_ne (tg := 12) i_X9_begin_7 (by decide) (fun c7 => ?_) (fun c7 => ?_)
  · rw [if_neg c7] at hf
    refine ev_aload_n i_X9_begin_12 rfl ?_
    obtain ⟨b13, e13, hf⟩ := ob hf
    refine ev_gR i_X9_begin_13 fl_X9_46 rfl e13 ?_
    obtain ⟨h16, e16, hf⟩ := ob hf
    refine ev_cV_v i_X9_begin_16 lk_X9_begin_229 [] rfl rfl (by decide) (gK_of e16).1.1 (gK_of e16).1.2 (Nat.le_of_ble_eq_true rfl) (by decide) (e_X6_start e16) ?_
    refine ev_iconst i_X9_begin_19 lt_i_1 ?_
    cases hf
    exact ev_zret i_X9_begin_20 rfl (by decide)
  · rw [if_pos c7] at hf
    refine ev_iconst i_X9_begin_10 lt_i_0 ?_
    cases hf
    exact ev_zret i_X9_begin_11 rfl (by decide)
def f_X9_send (h : MH) (a0 : Nat) (x1 : Int32) (x2 : Int32) : Option (Int32 × MH) := gK h a0 9 ((gR h a0 9 4).bind fun b1 => (f_X6_isLive h b1).bind fun v4 => (if v4 = 0 then (some ((-1 : Int32), h)) else ((gR h a0 9 0).bind fun b11 => (f_X1_hasHost h b11 x1).bind fun v15 => (if v15 = 0 then (some ((-1 : Int32), h)) else ((f_X9_isMark h x2).bind fun v22 => (if v22 = 0 then (some ((-1 : Int32), h)) else ((gR h a0 9 4).bind fun b29 => (f_X6_packetCount h b29).bind fun v32 => (if v32 < (40 : Int32) then ((gR h a0 9 4).bind fun b43 => (f_X6_putIn h b43 x1 x2).bind fun r48 => some (r48.1, r48.2)) else (some ((-1 : Int32), h))))))))))
set_option maxRecDepth 20000 in
theorem e_X9_send {G : GG} {h : MH} {a0 : Nat} {x1 : Int32} {x2 : Int32} {r : (Int32 × MH)} (hf : f_X9_send h a0 x1 x2 = some r) : Ev G 3 M_X9_send 0 (ent M_X9_send [.ref a0, .int x1, .int x2]) [] h (some (.int r.1)) r.2 := by
  unfold f_X9_send at hf
  show Ev G 3 M_X9_send 0 [some (.ref a0), some (.int x1), some (.int x2)] [] h (some (.int r.1)) r.2
  obtain ⟨-, hf⟩ := gK_of hf
  refine ev_aload_n i_X9_send_0 rfl ?_
  obtain ⟨b1, e1, hf⟩ := ob hf
  refine ev_gR i_X9_send_1 fl_X9_46 rfl e1 ?_
  obtain ⟨v4, e4, hf⟩ := ob hf
  refine ev_cV_i i_X9_send_4 lk_X9_send_232 [] rfl rfl (by decide) (gK_of e4).1.1 (gK_of e4).1.2 (Nat.le_of_ble_eq_true rfl) (by decide) (e_X6_isLive e4) ?_
  refine ev_if_eq (tg := 40) i_X9_send_7 (by decide) (fun c7 => ?_) (fun c7 => ?_)
  · rw [if_pos c7] at hf
    refine ev_iconst i_X9_send_40 lt_i_m1 ?_
    cases hf
    exact ev_iiret i_X9_send_41 rfl
  · rw [if_neg c7] at hf
    refine ev_aload_n i_X9_send_10 rfl ?_
    obtain ⟨b11, e11, hf⟩ := ob hf
    refine ev_gR i_X9_send_11 fl_X9_10 rfl e11 ?_
    refine ev_iload_n i_X9_send_14 rfl ?_
    obtain ⟨v15, e15, hf⟩ := ob hf
    refine ev_cV_i i_X9_send_15 lk_X9_send_119 [.int x1] rfl rfl (by decide) (gK_of e15).1.1 (gK_of e15).1.2 (Nat.le_of_ble_eq_true rfl) (by decide) (e_X1_hasHost e15) ?_
    refine ev_if_eq (tg := 40) i_X9_send_18 (by decide) (fun c18 => ?_) (fun c18 => ?_)
    · rw [if_pos c18] at hf
      refine ev_iconst i_X9_send_40 lt_i_m1 ?_
      cases hf
      exact ev_iiret i_X9_send_41 rfl
    · rw [if_neg c18] at hf
      refine ev_iload_n i_X9_send_21 rfl ?_
      obtain ⟨v22, e22, hf⟩ := ob hf
      refine ev_cS_i i_X9_send_22 lk_X9_send_172 [.int x2] rfl rfl (by decide) (Nat.le_of_ble_eq_true rfl) (by decide) (e_X9_isMark e22) ?_
      refine ev_if_eq (tg := 40) i_X9_send_25 (by decide) (fun c25 => ?_) (fun c25 => ?_)
      · rw [if_pos c25] at hf
        refine ev_iconst i_X9_send_40 lt_i_m1 ?_
        cases hf
        exact ev_iiret i_X9_send_41 rfl
      · rw [if_neg c25] at hf
        refine ev_aload_n i_X9_send_28 rfl ?_
        obtain ⟨b29, e29, hf⟩ := ob hf
        refine ev_gR i_X9_send_29 fl_X9_46 rfl e29 ?_
        obtain ⟨v32, e32, hf⟩ := ob hf
        refine ev_cV_i i_X9_send_32 lk_X9_send_236 [] rfl rfl (by decide) (gK_of e32).1.1 (gK_of e32).1.2 (Nat.le_of_ble_eq_true rfl) (by decide) (e_X6_packetCount e32) ?_
        refine ev_bipush i_X9_send_35 lt_b_40 ?_
        refine ev_icmp_lt (tg := 42) i_X9_send_37 (by decide) (fun c37 => ?_) (fun c37 => ?_)
        · rw [if_pos c37] at hf
          refine ev_aload_n i_X9_send_42 rfl ?_
          obtain ⟨b43, e43, hf⟩ := ob hf
          refine ev_gR i_X9_send_43 fl_X9_46 rfl e43 ?_
          refine ev_iload_n i_X9_send_46 rfl ?_
          refine ev_iload_n i_X9_send_47 rfl ?_
          obtain ⟨r48, e48, hf⟩ := ob hf
          refine ev_cV_i i_X9_send_48 lk_X9_send_239 [.int x1, .int x2] rfl rfl (by decide) (gK_of e48).1.1 (gK_of e48).1.2 (Nat.le_of_ble_eq_true rfl) (by decide) (e_X6_putIn e48) ?_
          cases hf
          exact ev_iiret i_X9_send_51 rfl
        · rw [if_neg c37] at hf
          refine ev_iconst i_X9_send_40 lt_i_m1 ?_
          cases hf
          exact ev_iiret i_X9_send_41 rfl
def f_X9_hop (h : MH) (a0 : Nat) (x1 : Int32) : Option (Int32 × MH) := gK h a0 9 ((gR h a0 9 4).bind fun b1 => (f_X6_packetOf h b1 x1).bind fun o5 => (match o5 with | none => (some ((-1 : Int32), h)) | some q5 => ((f_X2_isUnderWay h q5).bind fun v14 => (if v14 = 0 then (some ((-1 : Int32), h)) else ((gR h a0 9 4).bind fun b23 => (f_X6_moveOn h b23 q5).bind fun h27 => (f_X2_isUnderWay h27 q5).bind fun v31 => (if v31 = 0 then ((f_X2_end h27 q5).bind fun v47 => some (((100 : Int32) + v47), h27)) else ((f_X2_place h27 q5).bind fun v38 => some (v38, h27))))))))
set_option maxRecDepth 20000 in
theorem e_X9_hop {G : GG} {h : MH} {a0 : Nat} {x1 : Int32} {r : (Int32 × MH)} (hf : f_X9_hop h a0 x1 = some r) : Ev G 7 M_X9_hop 0 (ent M_X9_hop [.ref a0, .int x1]) [] h (some (.int r.1)) r.2 := by
  unfold f_X9_hop at hf
  show Ev G 7 M_X9_hop 0 [some (.ref a0), some (.int x1), none] [] h (some (.int r.1)) r.2
  obtain ⟨-, hf⟩ := gK_of hf
  refine ev_aload_n i_X9_hop_0 rfl ?_
  obtain ⟨b1, e1, hf⟩ := ob hf
  refine ev_gR i_X9_hop_1 fl_X9_46 rfl e1 ?_
  refine ev_iload_n i_X9_hop_4 rfl ?_
  obtain ⟨o5, e5, hf⟩ := ob hf
  cases o5 with
  | none =>
    dsimp only at hf
    refine ev_cV_r i_X9_hop_5 lk_X9_hop_242 [.int x1] rfl rfl (by decide) (gK_of e5).1.1 (gK_of e5).1.2 (Nat.le_of_ble_eq_true rfl) (by decide) (e_X6_packetOf e5) ?_
    refine ev_astore_nN i_X9_hop_8 (by decide) ?_
    refine ev_aload_nN i_X9_hop_9 rfl ?_
    refine ev_ifnullN (tg := 20) i_X9_hop_10 (by decide) ?_
    refine ev_iconst i_X9_hop_20 lt_i_m1 ?_
    cases hf
    exact ev_iiret i_X9_hop_21 rfl
  | some q5 =>
    dsimp only at hf
    refine ev_cV_r i_X9_hop_5 lk_X9_hop_242 [.int x1] rfl rfl (by decide) (gK_of e5).1.1 (gK_of e5).1.2 (Nat.le_of_ble_eq_true rfl) (by decide) (e_X6_packetOf e5) ?_
    refine ev_astore_n i_X9_hop_8 (by decide) ?_
    refine ev_aload_n i_X9_hop_9 rfl ?_
    refine ev_ifnull i_X9_hop_10 ?_
    refine ev_aload_n i_X9_hop_13 rfl ?_
    obtain ⟨v14, e14, hf⟩ := ob hf
    refine ev_cV_i i_X9_hop_14 lk_X9_hop_246 [] rfl rfl (by decide) (gK_of e14).1.1 (gK_of e14).1.2 (Nat.le_of_ble_eq_true rfl) (by decide) (e_X2_isUnderWay e14) ?_
    refine ev_if_ne (tg := 22) i_X9_hop_17 (by decide) (fun c17 => ?_) (fun c17 => ?_)
    · rw [if_neg c17] at hf
      refine ev_aload_n i_X9_hop_22 rfl ?_
      obtain ⟨b23, e23, hf⟩ := ob hf
      refine ev_gR i_X9_hop_23 fl_X9_46 rfl e23 ?_
      refine ev_aload_n i_X9_hop_26 rfl ?_
      obtain ⟨h27, e27, hf⟩ := ob hf
      refine ev_cV_v i_X9_hop_27 lk_X9_hop_251 [.ref q5] rfl rfl (by decide) (gK_of e27).1.1 (gK_of e27).1.2 (Nat.le_of_ble_eq_true rfl) (by decide) (e_X6_moveOn e27) ?_
      refine ev_aload_n i_X9_hop_30 rfl ?_
      obtain ⟨v31, e31, hf⟩ := ob hf
      refine ev_cV_i i_X9_hop_31 lk_X9_hop_246 [] rfl rfl (by decide) (gK_of e31).1.1 (gK_of e31).1.2 (Nat.le_of_ble_eq_true rfl) (by decide) (e_X2_isUnderWay e31) ?_
      refine ev_if_eq (tg := 44) i_X9_hop_34 (by decide) (fun c34 => ?_) (fun c34 => ?_)
      · rw [if_pos c34] at hf
        refine ev_bipush i_X9_hop_44 lt_b_100 ?_
        refine ev_aload_n i_X9_hop_46 rfl ?_
        obtain ⟨v47, e47, hf⟩ := ob hf
        refine ev_cV_i i_X9_hop_47 lk_X9_hop_258 [] rfl rfl (by decide) (gK_of e47).1.1 (gK_of e47).1.2 (Nat.le_of_ble_eq_true rfl) (by decide) (e_X2_end e47) ?_
        refine ev_iadd i_X9_hop_50 ?_
        cases hf
        exact ev_iiret i_X9_hop_51 rfl
      · rw [if_neg c34] at hf
        refine ev_aload_n i_X9_hop_37 rfl ?_
        obtain ⟨v38, e38, hf⟩ := ob hf
        refine ev_cV_i i_X9_hop_38 lk_X9_hop_255 [] rfl rfl (by decide) (gK_of e38).1.1 (gK_of e38).1.2 (Nat.le_of_ble_eq_true rfl) (by decide) (e_X2_place e38) ?_
        refine ev_goto (tg := 51) i_X9_hop_41 (by decide) ?_
        cases hf
        exact ev_iiret i_X9_hop_51 rfl
    · rw [if_pos c17] at hf
      refine ev_iconst i_X9_hop_20 lt_i_m1 ?_
      cases hf
      exact ev_iiret i_X9_hop_21 rfl
def f_X9_change (h : MH) (a0 : Nat) (x1 : Int32) : Option (Int32 × MH) := gK h a0 9 ((gR h a0 9 4).bind fun b1 => (f_X6_takeNew h b1 x1).bind fun r5 => some (r5.1, r5.2))
set_option maxRecDepth 20000 in
theorem e_X9_change {G : GG} {h : MH} {a0 : Nat} {x1 : Int32} {r : (Int32 × MH)} (hf : f_X9_change h a0 x1 = some r) : Ev G 4 M_X9_change 0 (ent M_X9_change [.ref a0, .int x1]) [] h (some (.int r.1)) r.2 := by
  unfold f_X9_change at hf
  show Ev G 4 M_X9_change 0 [some (.ref a0), some (.int x1)] [] h (some (.int r.1)) r.2
  obtain ⟨-, hf⟩ := gK_of hf
  refine ev_aload_n i_X9_change_0 rfl ?_
  obtain ⟨b1, e1, hf⟩ := ob hf
  refine ev_gR i_X9_change_1 fl_X9_46 rfl e1 ?_
  refine ev_iload_n i_X9_change_4 rfl ?_
  obtain ⟨r5, e5, hf⟩ := ob hf
  refine ev_cV_i i_X9_change_5 lk_X9_change_259 [.int x1] rfl rfl (by decide) (gK_of e5).1.1 (gK_of e5).1.2 (Nat.le_of_ble_eq_true rfl) (by decide) (e_X6_takeNew e5) ?_
  cases hf
  exact ev_iiret i_X9_change_8 rfl
def f_X9_next (h : MH) (a0 : Nat) : Option (Int32 × MH) := gK h a0 9 ((gR h a0 9 4).bind fun b1 => (f_X6_nextRound h b1).bind fun r4 => some (r4.1, r4.2))
set_option maxRecDepth 20000 in
theorem e_X9_next {G : GG} {h : MH} {a0 : Nat} {r : (Int32 × MH)} (hf : f_X9_next h a0 = some r) : Ev G 4 M_X9_next 0 (ent M_X9_next [.ref a0]) [] h (some (.int r.1)) r.2 := by
  unfold f_X9_next at hf
  show Ev G 4 M_X9_next 0 [some (.ref a0)] [] h (some (.int r.1)) r.2
  obtain ⟨-, hf⟩ := gK_of hf
  refine ev_aload_n i_X9_next_0 rfl ?_
  obtain ⟨b1, e1, hf⟩ := ob hf
  refine ev_gR i_X9_next_1 fl_X9_46 rfl e1 ?_
  obtain ⟨r4, e4, hf⟩ := ob hf
  refine ev_cV_i i_X9_next_4 lk_X9_next_262 [] rfl rfl (by decide) (gK_of e4).1.1 (gK_of e4).1.2 (Nat.le_of_ble_eq_true rfl) (by decide) (e_X6_nextRound e4) ?_
  cases hf
  exact ev_iiret i_X9_next_7 rfl
def f_X9_run (h : MH) (a0 : Nat) (x1 : Int32) : Option Int32 := gK h a0 9 ((gR h a0 9 4).bind fun b1 => (f_X6_tell h b1 x1).bind fun v5 => some v5)
set_option maxRecDepth 20000 in
theorem e_X9_run {G : GG} {h : MH} {a0 : Nat} {x1 : Int32} {r : Int32} (hf : f_X9_run h a0 x1 = some r) : Ev G 1 M_X9_run 0 (ent M_X9_run [.ref a0, .int x1]) [] h (some (.int r)) h := by
  unfold f_X9_run at hf
  show Ev G 1 M_X9_run 0 [some (.ref a0), some (.int x1)] [] h (some (.int r)) h
  obtain ⟨-, hf⟩ := gK_of hf
  refine ev_aload_n i_X9_run_0 rfl ?_
  obtain ⟨b1, e1, hf⟩ := ob hf
  refine ev_gR i_X9_run_1 fl_X9_46 rfl e1 ?_
  refine ev_iload_n i_X9_run_4 rfl ?_
  obtain ⟨v5, e5, hf⟩ := ob hf
  refine ev_cV_i i_X9_run_5 lk_X9_run_265 [.int x1] rfl rfl (by decide) (gK_of e5).1.1 (gK_of e5).1.2 (Nat.le_of_ble_eq_true rfl) (by decide) (e_X6_tell e5) ?_
  cases hf
  exact ev_iiret i_X9_run_8 rfl
def f_X9_packet (h : MH) (a0 : Nat) (x1 : Int32) (x2 : Int32) : Option Int32 := gK h a0 9 ((gR h a0 9 4).bind fun b1 => (f_X6_packetOf h b1 x1).bind fun o5 => (match o5 with | none => (some (-1 : Int32)) | some q5 => ((f_X2_tell h q5 x2).bind fun v19 => some v19)))
set_option maxRecDepth 20000 in
theorem e_X9_packet {G : GG} {h : MH} {a0 : Nat} {x1 : Int32} {x2 : Int32} {r : Int32} (hf : f_X9_packet h a0 x1 x2 = some r) : Ev G 3 M_X9_packet 0 (ent M_X9_packet [.ref a0, .int x1, .int x2]) [] h (some (.int r)) h := by
  unfold f_X9_packet at hf
  show Ev G 3 M_X9_packet 0 [some (.ref a0), some (.int x1), some (.int x2), none] [] h (some (.int r)) h
  obtain ⟨-, hf⟩ := gK_of hf
  refine ev_aload_n i_X9_packet_0 rfl ?_
  obtain ⟨b1, e1, hf⟩ := ob hf
  refine ev_gR i_X9_packet_1 fl_X9_46 rfl e1 ?_
  refine ev_iload_n i_X9_packet_4 rfl ?_
  obtain ⟨o5, e5, hf⟩ := ob hf
  cases o5 with
  | none =>
    dsimp only at hf
    refine ev_cV_r i_X9_packet_5 lk_X9_packet_242 [.int x1] rfl rfl (by decide) (gK_of e5).1.1 (gK_of e5).1.2 (Nat.le_of_ble_eq_true rfl) (by decide) (e_X6_packetOf e5) ?_
    refine ev_astore_nN i_X9_packet_8 (by decide) ?_
    refine ev_aload_nN i_X9_packet_9 rfl ?_
    refine ev_ifnonnullN i_X9_packet_10 ?_
    refine ev_iconst i_X9_packet_13 lt_i_m1 ?_
    refine ev_goto (tg := 22) i_X9_packet_14 (by decide) ?_
    cases hf
    exact ev_iiret i_X9_packet_22 rfl
  | some q5 =>
    dsimp only at hf
    refine ev_cV_r i_X9_packet_5 lk_X9_packet_242 [.int x1] rfl rfl (by decide) (gK_of e5).1.1 (gK_of e5).1.2 (Nat.le_of_ble_eq_true rfl) (by decide) (e_X6_packetOf e5) ?_
    refine ev_astore_n i_X9_packet_8 (by decide) ?_
    refine ev_aload_n i_X9_packet_9 rfl ?_
    refine ev_ifnonnull (tg := 17) i_X9_packet_10 (by decide) ?_
    refine ev_aload_n i_X9_packet_17 rfl ?_
    refine ev_iload_n i_X9_packet_18 rfl ?_
    obtain ⟨v19, e19, hf⟩ := ob hf
    refine ev_cV_i i_X9_packet_19 lk_X9_packet_268 [.int x2] rfl rfl (by decide) (gK_of e19).1.1 (gK_of e19).1.2 (Nat.le_of_ble_eq_true rfl) (by decide) (e_X2_tell e19) ?_
    cases hf
    exact ev_iiret i_X9_packet_22 rfl

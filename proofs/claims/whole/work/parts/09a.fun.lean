/-! ===== methods as functions ===== -/
def f_X8_init (h : MH) (a0 : Nat) : Option MH := (pR (mm_na h 11 7) a0 8 0 (mm_N h)).bind fun h9 => (pI h9 a0 8 3 (-1 : Int32)).bind fun h14 => some h14
set_option maxRecDepth 20000 in
theorem e_X8_init {G : GG} {h : MH} {a0 : Nat} {r : MH} (hf : f_X8_init h a0 = some r) : Ev G 1 M_X8_init 0 (ent M_X8_init [.ref a0]) [] h none r := by
  unfold f_X8_init at hf
  show Ev G 1 M_X8_init 0 [some (.ref a0)] [] h none r
  refine ev_aload_n i_X8_init_0 rfl ?_
  refine ev_objI i_X8_init_1 ml_X8_3 go_1 go_2 (Nat.le_of_ble_eq_true rfl) (by decide) ?_
  refine ev_aload_n i_X8_init_4 rfl ?_
  refine ev_bipush i_X8_init_5 lt_b_7 ?_
  refine ev_nA (kd := 11) i_X8_init_7 (Or.inl ⟨rfl, rfl⟩) ga_i (by decide) (by decide : _ = 7) (by decide) ?_
  obtain ⟨h9, e9, hf⟩ := ob hf
  refine ev_pR i_X8_init_9 fp_X8_init_9 rfl e9 ?_
  refine ev_aload_n i_X8_init_12 rfl ?_
  refine ev_iconst i_X8_init_13 lt_i_m1 ?_
  obtain ⟨h14, e14, hf⟩ := ob hf
  refine ev_pI i_X8_init_14 fp_X8_init_15 rfl e14 ?_
  cases hf
  exact ev_vret i_X8_init_17 rfl
def f_X9_spanHas (h : MH) (x0 : Int32) (x1 : Int32) (x2 : Int32) : Option Int32 := (if ((x2 ^^^ x0) &&& x1) = 0 then (some (1 : Int32)) else (some (0 : Int32)))
set_option maxRecDepth 20000 in
theorem e_X9_spanHas {G : GG} {h : MH} {x0 : Int32} {x1 : Int32} {x2 : Int32} {r : Int32} (hf : f_X9_spanHas h x0 x1 x2 = some r) : Ev G 0 M_X9_spanHas 0 (ent M_X9_spanHas [.int x0, .int x1, .int x2]) [] h (some (.int r)) h := by
  unfold f_X9_spanHas at hf
  show Ev G 0 M_X9_spanHas 0 [some (.int x0), some (.int x1), some (.int x2)] [] h (some (.int r)) h
  refine ev_iload_n i_X9_spanHas_0 rfl ?_
  refine ev_iload_n i_X9_spanHas_1 rfl ?_
  refine ev_ixor i_X9_spanHas_2 ?_
  refine ev_iload_n i_X9_spanHas_3 rfl ?_
  refine ev_iand i_X9_spanHas_4 ?_
  refine ev_if_ne (tg := 12) i_X9_spanHas_5 (by decide) (fun c5 => ?_) (fun c5 => ?_)
  · rw [if_neg c5] at hf
    refine ev_iconst i_X9_spanHas_12 lt_i_0 ?_
    cases hf
    exact ev_zret i_X9_spanHas_13 rfl (by decide)
  · rw [if_pos c5] at hf
    refine ev_iconst i_X9_spanHas_8 lt_i_1 ?_
    refine ev_goto (tg := 13) i_X9_spanHas_9 (by decide) ?_
    cases hf
    exact ev_zret i_X9_spanHas_13 rfl (by decide)
def f_X8_startAt (h : MH) (a0 : Nat) (x1 : Int32) : Option MH := gK h a0 8 ((gR h a0 8 0).bind fun b1 => (sI h b1 (0 : Int32) x1).bind fun h6 => (pI h6 a0 8 1 (1 : Int32)).bind fun h9 => (pI h9 a0 8 2 ((1 : Int32) <<< (x1 &&& 31))).bind fun h16 => (pI h16 a0 8 3 (-1 : Int32)).bind fun h21 => some h21)
set_option maxRecDepth 20000 in
theorem e_X8_startAt {G : GG} {h : MH} {a0 : Nat} {x1 : Int32} {r : MH} (hf : f_X8_startAt h a0 x1 = some r) : Ev G 0 M_X8_startAt 0 (ent M_X8_startAt [.ref a0, .int x1]) [] h none r := by
  unfold f_X8_startAt at hf
  show Ev G 0 M_X8_startAt 0 [some (.ref a0), some (.int x1)] [] h none r
  obtain ⟨-, hf⟩ := gK_of hf
  refine ev_aload_n i_X8_startAt_0 rfl ?_
  obtain ⟨b1, e1, hf⟩ := ob hf
  refine ev_gR i_X8_startAt_1 fl_X8_9 rfl e1 ?_
  refine ev_iconst i_X8_startAt_4 lt_i_0 ?_
  refine ev_iload_n i_X8_startAt_5 rfl ?_
  obtain ⟨h6, e6, hf⟩ := ob hf
  refine ev_sI i_X8_startAt_6 e6 ?_
  refine ev_aload_n i_X8_startAt_7 rfl ?_
  refine ev_iconst i_X8_startAt_8 lt_i_1 ?_
  obtain ⟨h9, e9, hf⟩ := ob hf
  refine ev_pI i_X8_startAt_9 fp_X8_startAt_19 rfl e9 ?_
  refine ev_aload_n i_X8_startAt_12 rfl ?_
  refine ev_iconst i_X8_startAt_13 lt_i_1 ?_
  refine ev_iload_n i_X8_startAt_14 rfl ?_
  refine ev_ishl i_X8_startAt_15 ?_
  obtain ⟨h16, e16, hf⟩ := ob hf
  refine ev_pI i_X8_startAt_16 fp_X8_startAt_22 rfl e16 ?_
  refine ev_aload_n i_X8_startAt_19 rfl ?_
  refine ev_iconst i_X8_startAt_20 lt_i_m1 ?_
  obtain ⟨h21, e21, hf⟩ := ob hf
  refine ev_pI i_X8_startAt_21 fp_X8_startAt_15 rfl e21 ?_
  cases hf
  exact ev_vret i_X8_startAt_24 rfl
def f_X8_end (h : MH) (a0 : Nat) : Option Int32 := gK h a0 8 ((gI h a0 8 3).bind fun v1 => some v1)
set_option maxRecDepth 20000 in
theorem e_X8_end {G : GG} {h : MH} {a0 : Nat} {r : Int32} (hf : f_X8_end h a0 = some r) : Ev G 0 M_X8_end 0 (ent M_X8_end [.ref a0]) [] h (some (.int r)) h := by
  unfold f_X8_end at hf
  show Ev G 0 M_X8_end 0 [some (.ref a0)] [] h (some (.int r)) h
  obtain ⟨-, hf⟩ := gK_of hf
  refine ev_aload_n i_X8_end_0 rfl ?_
  obtain ⟨v1, e1, hf⟩ := ob hf
  refine ev_gI i_X8_end_1 fl_X8_15 rfl e1 ?_
  cases hf
  exact ev_iiret i_X8_end_4 rfl
def f_X8_last (h : MH) (a0 : Nat) : Option Int32 := gK h a0 8 ((gI h a0 8 1).bind fun v1 => (if v1 ≤ 0 then (some (-1 : Int32)) else ((gR h a0 8 0).bind fun b8 => (gI h a0 8 1).bind fun v12 => (aI h b8 (v12 - (1 : Int32))).bind fun v17 => some v17)))
set_option maxRecDepth 20000 in
theorem e_X8_last {G : GG} {h : MH} {a0 : Nat} {r : Int32} (hf : f_X8_last h a0 = some r) : Ev G 0 M_X8_last 0 (ent M_X8_last [.ref a0]) [] h (some (.int r)) h := by
  unfold f_X8_last at hf
  show Ev G 0 M_X8_last 0 [some (.ref a0)] [] h (some (.int r)) h
  obtain ⟨-, hf⟩ := gK_of hf
  refine ev_aload_n i_X8_last_0 rfl ?_
  obtain ⟨v1, e1, hf⟩ := ob hf
  refine ev_gI i_X8_last_1 fl_X8_19 rfl e1 ?_
  refine ev_if_le (tg := 21) i_X8_last_4 (by decide) (fun c4 => ?_) (fun c4 => ?_)
  · rw [if_pos c4] at hf
    refine ev_iconst i_X8_last_21 lt_i_m1 ?_
    cases hf
    exact ev_iiret i_X8_last_22 rfl
  · rw [if_neg c4] at hf
    refine ev_aload_n i_X8_last_7 rfl ?_
    obtain ⟨b8, e8, hf⟩ := ob hf
    refine ev_gR i_X8_last_8 fl_X8_9 rfl e8 ?_
    refine ev_aload_n i_X8_last_11 rfl ?_
    obtain ⟨v12, e12, hf⟩ := ob hf
    refine ev_gI i_X8_last_12 fl_X8_19 rfl e12 ?_
    refine ev_iconst i_X8_last_15 lt_i_1 ?_
    refine ev_isub i_X8_last_16 ?_
    obtain ⟨v17, e17, hf⟩ := ob hf
    refine ev_aI i_X8_last_17 e17 ?_
    refine ev_goto (tg := 22) i_X8_last_18 (by decide) ?_
    cases hf
    exact ev_iiret i_X8_last_22 rfl
def f_X8_goOn (h : MH) (a0 : Nat) (x1 : Int32) : Option MH := gK h a0 8 ((if x1 < (100 : Int32) then ((gI h a0 8 2).bind fun v18 => (if ((v18 >>> (x1 &&& 31)) &&& (1 : Int32)) = 0 then ((gI h a0 8 1).bind fun v29 => (if v29 < (7 : Int32) then ((gR h a0 8 0).bind fun b47 => (gI h a0 8 1).bind fun v51 => (sI h b47 v51 x1).bind fun h55 => (gI h55 a0 8 1).bind fun v58 => (pI h55 a0 8 1 (v58 + (1 : Int32))).bind fun h63 => (gI h63 a0 8 2).bind fun v68 => (pI h63 a0 8 2 (v68 ||| ((1 : Int32) <<< (x1 &&& 31)))).bind fun h75 => some h75) else ((pI h a0 8 3 (12 : Int32)).bind fun h40 => some h40))) else ((pI h a0 8 3 (12 : Int32)).bind fun h40 => some h40))) else ((pI h a0 8 3 (x1 - (100 : Int32))).bind fun h11 => some h11)))
set_option maxRecDepth 20000 in
theorem e_X8_goOn {G : GG} {h : MH} {a0 : Nat} {x1 : Int32} {r : MH} (hf : f_X8_goOn h a0 x1 = some r) : Ev G 0 M_X8_goOn 0 (ent M_X8_goOn [.ref a0, .int x1]) [] h none r := by
  unfold f_X8_goOn at hf
  show Ev G 0 M_X8_goOn 0 [some (.ref a0), some (.int x1)] [] h none r
  obtain ⟨-, hf⟩ := gK_of hf
  refine ev_iload_n i_X8_goOn_0 rfl ?_
  refine ev_bipush i_X8_goOn_1 lt_b_100 ?_
  refine ev_icmp_lt (tg := 17) i_X8_goOn_3 (by decide) (fun c3 => ?_) (fun c3 => ?_)
  · rw [if_pos c3] at hf
    refine ev_aload_n i_X8_goOn_17 rfl ?_
    obtain ⟨v18, e18, hf⟩ := ob hf
    refine ev_gI i_X8_goOn_18 fl_X8_22 rfl e18 ?_
    refine ev_iload_n i_X8_goOn_21 rfl ?_
    refine ev_ishr i_X8_goOn_22 ?_
    refine ev_iconst i_X8_goOn_23 lt_i_1 ?_
    refine ev_iand i_X8_goOn_24 ?_
    refine ev_if_ne (tg := 37) i_X8_goOn_25 (by decide) (fun c25 => ?_) (fun c25 => ?_)
    · rw [if_neg c25] at hf
      refine ev_aload_n i_X8_goOn_37 rfl ?_
      refine ev_bipush i_X8_goOn_38 lt_b_12 ?_
      obtain ⟨h40, e40, hf⟩ := ob hf
      refine ev_pI i_X8_goOn_40 fp_X8_goOn_15 rfl e40 ?_
      refine ev_goto (tg := 78) i_X8_goOn_43 (by decide) ?_
      cases hf
      exact ev_vret i_X8_goOn_78 rfl
    · rw [if_pos c25] at hf
      refine ev_aload_n i_X8_goOn_28 rfl ?_
      obtain ⟨v29, e29, hf⟩ := ob hf
      refine ev_gI i_X8_goOn_29 fl_X8_19 rfl e29 ?_
      refine ev_bipush i_X8_goOn_32 lt_b_7 ?_
      refine ev_icmp_lt (tg := 46) i_X8_goOn_34 (by decide) (fun c34 => ?_) (fun c34 => ?_)
      · rw [if_pos c34] at hf
        refine ev_aload_n i_X8_goOn_46 rfl ?_
        obtain ⟨b47, e47, hf⟩ := ob hf
        refine ev_gR i_X8_goOn_47 fl_X8_9 rfl e47 ?_
        refine ev_aload_n i_X8_goOn_50 rfl ?_
        obtain ⟨v51, e51, hf⟩ := ob hf
        refine ev_gI i_X8_goOn_51 fl_X8_19 rfl e51 ?_
        refine ev_iload_n i_X8_goOn_54 rfl ?_
        obtain ⟨h55, e55, hf⟩ := ob hf
        refine ev_sI i_X8_goOn_55 e55 ?_
        refine ev_aload_n i_X8_goOn_56 rfl ?_
        refine ev_dup i_X8_goOn_57 ?_
        obtain ⟨v58, e58, hf⟩ := ob hf
        refine ev_gI i_X8_goOn_58 fl_X8_19 rfl e58 ?_
        refine ev_iconst i_X8_goOn_61 lt_i_1 ?_
        refine ev_iadd i_X8_goOn_62 ?_
        obtain ⟨h63, e63, hf⟩ := ob hf
        refine ev_pI i_X8_goOn_63 fp_X8_goOn_19 rfl e63 ?_
        refine ev_aload_n i_X8_goOn_66 rfl ?_
        refine ev_dup i_X8_goOn_67 ?_
        obtain ⟨v68, e68, hf⟩ := ob hf
        refine ev_gI i_X8_goOn_68 fl_X8_22 rfl e68 ?_
        refine ev_iconst i_X8_goOn_71 lt_i_1 ?_
        refine ev_iload_n i_X8_goOn_72 rfl ?_
        refine ev_ishl i_X8_goOn_73 ?_
        refine ev_ior i_X8_goOn_74 ?_
        obtain ⟨h75, e75, hf⟩ := ob hf
        refine ev_pI i_X8_goOn_75 fp_X8_goOn_22 rfl e75 ?_
        cases hf
        exact ev_vret i_X8_goOn_78 rfl
      · rw [if_neg c34] at hf
        refine ev_aload_n i_X8_goOn_37 rfl ?_
        refine ev_bipush i_X8_goOn_38 lt_b_12 ?_
        obtain ⟨h40, e40, hf⟩ := ob hf
        refine ev_pI i_X8_goOn_40 fp_X8_goOn_15 rfl e40 ?_
        refine ev_goto (tg := 78) i_X8_goOn_43 (by decide) ?_
        cases hf
        exact ev_vret i_X8_goOn_78 rfl
  · rw [if_neg c3] at hf
    refine ev_aload_n i_X8_goOn_6 rfl ?_
    refine ev_iload_n i_X8_goOn_7 rfl ?_
    refine ev_bipush i_X8_goOn_8 lt_b_100 ?_
    refine ev_isub i_X8_goOn_10 ?_
    obtain ⟨h11, e11, hf⟩ := ob hf
    refine ev_pI i_X8_goOn_11 fp_X8_goOn_15 rfl e11 ?_
    refine ev_goto (tg := 78) i_X8_goOn_14 (by decide) ?_
    cases hf
    exact ev_vret i_X8_goOn_78 rfl
def f_X8_passes (h : MH) (a0 : Nat) (x1 : Int32) : Option Int32 := gK h a0 8 ((gI h a0 8 2).bind fun v1 => (if ((v1 >>> (x1 &&& 31)) &&& (1 : Int32)) = 0 then (some (0 : Int32)) else (some (1 : Int32))))
set_option maxRecDepth 20000 in
theorem e_X8_passes {G : GG} {h : MH} {a0 : Nat} {x1 : Int32} {r : Int32} (hf : f_X8_passes h a0 x1 = some r) : Ev G 0 M_X8_passes 0 (ent M_X8_passes [.ref a0, .int x1]) [] h (some (.int r)) h := by
  unfold f_X8_passes at hf
  show Ev G 0 M_X8_passes 0 [some (.ref a0), some (.int x1)] [] h (some (.int r)) h
  obtain ⟨-, hf⟩ := gK_of hf
  refine ev_aload_n i_X8_passes_0 rfl ?_
  obtain ⟨v1, e1, hf⟩ := ob hf
  refine ev_gI i_X8_passes_1 fl_X8_22 rfl e1 ?_
  refine ev_iload_n i_X8_passes_4 rfl ?_
  refine ev_ishr i_X8_passes_5 ?_
  refine ev_iconst i_X8_passes_6 lt_i_1 ?_
  refine ev_iand i_X8_passes_7 ?_
  refine ev_if_eq (tg := 15) i_X8_passes_8 (by decide) (fun c8 => ?_) (fun c8 => ?_)
  · rw [if_pos c8] at hf
    refine ev_iconst i_X8_passes_15 lt_i_0 ?_
    cases hf
    exact ev_zret i_X8_passes_16 rfl (by decide)
  · rw [if_neg c8] at hf
    refine ev_iconst i_X8_passes_11 lt_i_1 ?_
    refine ev_goto (tg := 16) i_X8_passes_12 (by decide) ?_
    cases hf
    exact ev_zret i_X8_passes_16 rfl (by decide)
def f_X8_isLike_L26 (k57 : Option Int32) (h : MH) (a0 : Nat) (a1 : Nat) : Nat → Int32 → Option Int32
  | 0, _ => none
  | n + 1, x2 => (gI h a0 8 1).bind fun v28 => (if v28 ≤ x2 then (k57 ) else ((gR h a0 8 0).bind fun b35 => (aI h b35 x2).bind fun v39 => (gR h a1 8 0).bind fun b41 => (aI h b41 x2).bind fun v45 => (if v39 = v45 then (f_X8_isLike_L26 k57 h a0 a1 n (x2 + (1 : Int32))) else (some (0 : Int32)))))
set_option maxRecDepth 20000 in
theorem l_X8_isLike_26 {G : GG} {k57 : Option Int32} {h : MH} {a0 : Nat} {a1 : Nat} (hk57 : ∀  (r : Int32), k57  = some r → Ev G 0 M_X8_isLike 57 [none, none, none] [] h (some (.int r)) h) : ∀ (n : Nat) (x2 : Int32) (r : Int32), f_X8_isLike_L26 k57 h a0 a1 n x2 = some r → Ev G 0 M_X8_isLike 26 [some (.ref a0), some (.ref a1), some (.int x2)] [] h (some (.int r)) h := by
  intro n
  induction n with
  | zero => intro x2 r hf; rw [f_X8_isLike_L26] at hf; cases hf
  | succ n ih =>
    intro x2 r hf
    rw [f_X8_isLike_L26] at hf
    refine ev_iload_n i_X8_isLike_26 rfl ?_
    refine ev_aload_n i_X8_isLike_27 rfl ?_
    obtain ⟨v28, e28, hf⟩ := ob hf
    refine ev_gI i_X8_isLike_28 fl_X8_19 rfl e28 ?_
    refine ev_icmp_ge (tg := 57) i_X8_isLike_31 (by decide) (fun c31 => ?_) (fun c31 => ?_)
    · rw [if_pos c31] at hf
      refine ev_sub (lc2 := [none, none, none]) ⟨Or.inl rfl, Or.inl rfl, Or.inl rfl, trivial⟩ ?_
      exact hk57  _ hf
    · rw [if_neg c31] at hf
      refine ev_aload_n i_X8_isLike_34 rfl ?_
      obtain ⟨b35, e35, hf⟩ := ob hf
      refine ev_gR i_X8_isLike_35 fl_X8_9 rfl e35 ?_
      refine ev_iload_n i_X8_isLike_38 rfl ?_
      obtain ⟨v39, e39, hf⟩ := ob hf
      refine ev_aI i_X8_isLike_39 e39 ?_
      refine ev_aload_n i_X8_isLike_40 rfl ?_
      obtain ⟨b41, e41, hf⟩ := ob hf
      refine ev_gR i_X8_isLike_41 fl_X8_9 rfl e41 ?_
      refine ev_iload_n i_X8_isLike_44 rfl ?_
      obtain ⟨v45, e45, hf⟩ := ob hf
      refine ev_aI i_X8_isLike_45 e45 ?_
      refine ev_icmp_eq (tg := 51) i_X8_isLike_46 (by decide) (fun c46 => ?_) (fun c46 => ?_)
      · rw [if_pos c46] at hf
        refine ev_iinc (y := (x2 + (1 : Int32))) i_X8_isLike_51 rfl rfl (by decide) ?_
        refine ev_goto (tg := 26) i_X8_isLike_54 (by decide) ?_
        exact ih (x2 + (1 : Int32)) _ hf
      · rw [if_neg c46] at hf
        refine ev_iconst i_X8_isLike_49 lt_i_0 ?_
        cases hf
        exact ev_zret i_X8_isLike_50 rfl (by decide)
def f_X8_isLike (h : MH) (a0 : Nat) (a1 : Nat) : Option Int32 := gK h a0 8 ((gI h a0 8 1).bind fun v1 => (gI h a1 8 1).bind fun v5 => (if v1 = v5 then ((gI h a0 8 3).bind fun v12 => (gI h a1 8 3).bind fun v16 => (if v12 = v16 then (f_X8_isLike_L26 (some (1 : Int32)) h a0 a1 fuel (0 : Int32)) else (some (0 : Int32)))) else (some (0 : Int32))))
set_option maxRecDepth 20000 in
theorem e_X8_isLike {G : GG} {h : MH} {a0 : Nat} {a1 : Nat} {r : Int32} (hf : f_X8_isLike h a0 a1 = some r) : Ev G 0 M_X8_isLike 0 (ent M_X8_isLike [.ref a0, .ref a1]) [] h (some (.int r)) h := by
  unfold f_X8_isLike at hf
  show Ev G 0 M_X8_isLike 0 [some (.ref a0), some (.ref a1), none] [] h (some (.int r)) h
  obtain ⟨-, hf⟩ := gK_of hf
  refine ev_aload_n i_X8_isLike_0 rfl ?_
  obtain ⟨v1, e1, hf⟩ := ob hf
  refine ev_gI i_X8_isLike_1 fl_X8_19 rfl e1 ?_
  refine ev_aload_n i_X8_isLike_4 rfl ?_
  obtain ⟨v5, e5, hf⟩ := ob hf
  refine ev_gI i_X8_isLike_5 fl_X8_19 rfl e5 ?_
  refine ev_icmp_ne (tg := 22) i_X8_isLike_8 (by decide) (fun c8 => ?_) (fun c8 => ?_)
  · rw [if_neg c8] at hf
    refine ev_iconst i_X8_isLike_22 lt_i_0 ?_
    cases hf
    exact ev_zret i_X8_isLike_23 rfl (by decide)
  · rw [if_pos c8] at hf
    refine ev_aload_n i_X8_isLike_11 rfl ?_
    obtain ⟨v12, e12, hf⟩ := ob hf
    refine ev_gI i_X8_isLike_12 fl_X8_15 rfl e12 ?_
    refine ev_aload_n i_X8_isLike_15 rfl ?_
    obtain ⟨v16, e16, hf⟩ := ob hf
    refine ev_gI i_X8_isLike_16 fl_X8_15 rfl e16 ?_
    refine ev_icmp_eq (tg := 24) i_X8_isLike_19 (by decide) (fun c19 => ?_) (fun c19 => ?_)
    · rw [if_pos c19] at hf
      refine ev_iconst i_X8_isLike_24 lt_i_0 ?_
      refine ev_istore_n i_X8_isLike_25 (by decide) ?_
      exact l_X8_isLike_26 (fun  r hf => by
        refine ev_iconst i_X8_isLike_57 lt_i_1 ?_
        cases hf
        exact ev_zret i_X8_isLike_58 rfl (by decide)) fuel (0 : Int32) _ hf
    · rw [if_neg c19] at hf
      refine ev_iconst i_X8_isLike_22 lt_i_0 ?_
      cases hf
      exact ev_zret i_X8_isLike_23 rfl (by decide)
def f_X5_isLike_L15 (k91 : Option Int32) (h : MH) (a0 : Nat) (a1 : Nat) : Nat → Int32 → Option Int32
  | 0, _ => none
  | n + 1, x2 => (gI h a0 5 5).bind fun v17 => (if v17 ≤ x2 then (k91 ) else ((gR h a0 5 0).bind fun b24 => (aI h b24 x2).bind fun v28 => (gR h a1 5 0).bind fun b30 => (aI h b30 x2).bind fun v34 => (if v28 = v34 then ((gR h a0 5 1).bind fun b39 => (aI h b39 x2).bind fun v43 => (gR h a1 5 1).bind fun b45 => (aI h b45 x2).bind fun v49 => (if v43 = v49 then ((gR h a0 5 2).bind fun b54 => (aI h b54 x2).bind fun v58 => (gR h a1 5 2).bind fun b60 => (aI h b60 x2).bind fun v64 => (if v58 = v64 then ((gR h a0 5 3).bind fun b69 => (aI h b69 x2).bind fun v73 => (gR h a1 5 3).bind fun b75 => (aI h b75 x2).bind fun v79 => (if v73 = v79 then (f_X5_isLike_L15 k91 h a0 a1 n (x2 + (1 : Int32))) else (some (0 : Int32)))) else (some (0 : Int32)))) else (some (0 : Int32)))) else (some (0 : Int32)))))
set_option maxRecDepth 20000 in
theorem l_X5_isLike_15 {G : GG} {k91 : Option Int32} {h : MH} {a0 : Nat} {a1 : Nat} (hk91 : ∀  (r : Int32), k91  = some r → Ev G 0 M_X5_isLike 91 [none, none, none] [] h (some (.int r)) h) : ∀ (n : Nat) (x2 : Int32) (r : Int32), f_X5_isLike_L15 k91 h a0 a1 n x2 = some r → Ev G 0 M_X5_isLike 15 [some (.ref a0), some (.ref a1), some (.int x2)] [] h (some (.int r)) h := by
  intro n
  induction n with
  | zero => intro x2 r hf; rw [f_X5_isLike_L15] at hf; cases hf
  | succ n ih =>
    intro x2 r hf
    rw [f_X5_isLike_L15] at hf
    refine ev_iload_n i_X5_isLike_15 rfl ?_
    refine ev_aload_n i_X5_isLike_16 rfl ?_
    obtain ⟨v17, e17, hf⟩ := ob hf
    refine ev_gI i_X5_isLike_17 fl_X5_33 rfl e17 ?_
    refine ev_icmp_ge (tg := 91) i_X5_isLike_20 (by decide) (fun c20 => ?_) (fun c20 => ?_)
    · rw [if_pos c20] at hf
      refine ev_sub (lc2 := [none, none, none]) ⟨Or.inl rfl, Or.inl rfl, Or.inl rfl, trivial⟩ ?_
      exact hk91  _ hf
    · rw [if_neg c20] at hf
      refine ev_aload_n i_X5_isLike_23 rfl ?_
      obtain ⟨b24, e24, hf⟩ := ob hf
      refine ev_gR i_X5_isLike_24 fl_X5_9 rfl e24 ?_
      refine ev_iload_n i_X5_isLike_27 rfl ?_
      obtain ⟨v28, e28, hf⟩ := ob hf
      refine ev_aI i_X5_isLike_28 e28 ?_
      refine ev_aload_n i_X5_isLike_29 rfl ?_
      obtain ⟨b30, e30, hf⟩ := ob hf
      refine ev_gR i_X5_isLike_30 fl_X5_9 rfl e30 ?_
      refine ev_iload_n i_X5_isLike_33 rfl ?_
      obtain ⟨v34, e34, hf⟩ := ob hf
      refine ev_aI i_X5_isLike_34 e34 ?_
      refine ev_icmp_ne (tg := 83) i_X5_isLike_35 (by decide) (fun c35 => ?_) (fun c35 => ?_)
      · rw [if_neg c35] at hf
        refine ev_iconst i_X5_isLike_83 lt_i_0 ?_
        cases hf
        exact ev_zret i_X5_isLike_84 rfl (by decide)
      · rw [if_pos c35] at hf
        refine ev_aload_n i_X5_isLike_38 rfl ?_
        obtain ⟨b39, e39, hf⟩ := ob hf
        refine ev_gR i_X5_isLike_39 fl_X5_15 rfl e39 ?_
        refine ev_iload_n i_X5_isLike_42 rfl ?_
        obtain ⟨v43, e43, hf⟩ := ob hf
        refine ev_aI i_X5_isLike_43 e43 ?_
        refine ev_aload_n i_X5_isLike_44 rfl ?_
        obtain ⟨b45, e45, hf⟩ := ob hf
        refine ev_gR i_X5_isLike_45 fl_X5_15 rfl e45 ?_
        refine ev_iload_n i_X5_isLike_48 rfl ?_
        obtain ⟨v49, e49, hf⟩ := ob hf
        refine ev_aI i_X5_isLike_49 e49 ?_
        refine ev_icmp_ne (tg := 83) i_X5_isLike_50 (by decide) (fun c50 => ?_) (fun c50 => ?_)
        · rw [if_neg c50] at hf
          refine ev_iconst i_X5_isLike_83 lt_i_0 ?_
          cases hf
          exact ev_zret i_X5_isLike_84 rfl (by decide)
        · rw [if_pos c50] at hf
          refine ev_aload_n i_X5_isLike_53 rfl ?_
          obtain ⟨b54, e54, hf⟩ := ob hf
          refine ev_gR i_X5_isLike_54 fl_X5_18 rfl e54 ?_
          refine ev_iload_n i_X5_isLike_57 rfl ?_
          obtain ⟨v58, e58, hf⟩ := ob hf
          refine ev_aI i_X5_isLike_58 e58 ?_
          refine ev_aload_n i_X5_isLike_59 rfl ?_
          obtain ⟨b60, e60, hf⟩ := ob hf
          refine ev_gR i_X5_isLike_60 fl_X5_18 rfl e60 ?_
          refine ev_iload_n i_X5_isLike_63 rfl ?_
          obtain ⟨v64, e64, hf⟩ := ob hf
          refine ev_aI i_X5_isLike_64 e64 ?_
          refine ev_icmp_ne (tg := 83) i_X5_isLike_65 (by decide) (fun c65 => ?_) (fun c65 => ?_)
          · rw [if_neg c65] at hf
            refine ev_iconst i_X5_isLike_83 lt_i_0 ?_
            cases hf
            exact ev_zret i_X5_isLike_84 rfl (by decide)
          · rw [if_pos c65] at hf
            refine ev_aload_n i_X5_isLike_68 rfl ?_
            obtain ⟨b69, e69, hf⟩ := ob hf
            refine ev_gR i_X5_isLike_69 fl_X5_21 rfl e69 ?_
            refine ev_iload_n i_X5_isLike_72 rfl ?_
            obtain ⟨v73, e73, hf⟩ := ob hf
            refine ev_aI i_X5_isLike_73 e73 ?_
            refine ev_aload_n i_X5_isLike_74 rfl ?_
            obtain ⟨b75, e75, hf⟩ := ob hf
            refine ev_gR i_X5_isLike_75 fl_X5_21 rfl e75 ?_
            refine ev_iload_n i_X5_isLike_78 rfl ?_
            obtain ⟨v79, e79, hf⟩ := ob hf
            refine ev_aI i_X5_isLike_79 e79 ?_
            refine ev_icmp_eq (tg := 85) i_X5_isLike_80 (by decide) (fun c80 => ?_) (fun c80 => ?_)
            · rw [if_pos c80] at hf
              refine ev_iinc (y := (x2 + (1 : Int32))) i_X5_isLike_85 rfl rfl (by decide) ?_
              refine ev_goto (tg := 15) i_X5_isLike_88 (by decide) ?_
              exact ih (x2 + (1 : Int32)) _ hf
            · rw [if_neg c80] at hf
              refine ev_iconst i_X5_isLike_83 lt_i_0 ?_
              cases hf
              exact ev_zret i_X5_isLike_84 rfl (by decide)
def f_X5_isLike (h : MH) (a0 : Nat) (a1 : Nat) : Option Int32 := gK h a0 5 ((gI h a0 5 5).bind fun v1 => (gI h a1 5 5).bind fun v5 => (if v1 = v5 then (f_X5_isLike_L15 (some (1 : Int32)) h a0 a1 fuel (0 : Int32)) else (some (0 : Int32))))
set_option maxRecDepth 20000 in
theorem e_X5_isLike {G : GG} {h : MH} {a0 : Nat} {a1 : Nat} {r : Int32} (hf : f_X5_isLike h a0 a1 = some r) : Ev G 0 M_X5_isLike 0 (ent M_X5_isLike [.ref a0, .ref a1]) [] h (some (.int r)) h := by
  unfold f_X5_isLike at hf
  show Ev G 0 M_X5_isLike 0 [some (.ref a0), some (.ref a1), none] [] h (some (.int r)) h
  obtain ⟨-, hf⟩ := gK_of hf
  refine ev_aload_n i_X5_isLike_0 rfl ?_
  obtain ⟨v1, e1, hf⟩ := ob hf
  refine ev_gI i_X5_isLike_1 fl_X5_33 rfl e1 ?_
  refine ev_aload_n i_X5_isLike_4 rfl ?_
  obtain ⟨v5, e5, hf⟩ := ob hf
  refine ev_gI i_X5_isLike_5 fl_X5_33 rfl e5 ?_
  refine ev_icmp_eq (tg := 13) i_X5_isLike_8 (by decide) (fun c8 => ?_) (fun c8 => ?_)
  · rw [if_pos c8] at hf
    refine ev_iconst i_X5_isLike_13 lt_i_0 ?_
    refine ev_istore_n i_X5_isLike_14 (by decide) ?_
    exact l_X5_isLike_15 (fun  r hf => by
      refine ev_iconst i_X5_isLike_91 lt_i_1 ?_
      cases hf
      exact ev_zret i_X5_isLike_92 rfl (by decide)) fuel (0 : Int32) _ hf
  · rw [if_neg c8] at hf
    refine ev_iconst i_X5_isLike_11 lt_i_0 ?_
    cases hf
    exact ev_zret i_X5_isLike_12 rfl (by decide)
def f_J7_fill_53178_L5 (k20 : MH → Option MH) (a0 : Nat) (x1 : Int32) (x3 : Int32) : Nat → MH → Int32 → Option MH
  | 0, _, _ => none
  | n + 1, h, x2 => (if x3 ≤ x2 then (k20 h) else ((sI h a0 x2 x1).bind fun h13 => f_J7_fill_53178_L5 k20 a0 x1 x3 n h13 (x2 + (1 : Int32))))
set_option maxRecDepth 20000 in
theorem l_J7_fill_53178_5 {G : GG} {k20 : MH → Option MH} {a0 : Nat} {x1 : Int32} {x3 : Int32} (hk20 : ∀ (hz : MH) (r : MH), k20 hz = some r → Ev G 0 M_J7_fill_53178 20 [none, none, none, none] [] hz none r) : ∀ (n : Nat) (h : MH) (x2 : Int32) (r : MH), f_J7_fill_53178_L5 k20 a0 x1 x3 n h x2 = some r → Ev G 0 M_J7_fill_53178 5 [some (.ref a0), some (.int x1), some (.int x2), some (.int x3)] [] h none r := by
  intro n
  induction n with
  | zero => intro h x2 r hf; rw [f_J7_fill_53178_L5] at hf; cases hf
  | succ n ih =>
    intro h x2 r hf
    rw [f_J7_fill_53178_L5] at hf
    refine ev_iload_n i_J7_fill_53178_5 rfl ?_
    refine ev_iload_n i_J7_fill_53178_6 rfl ?_
    refine ev_icmp_ge (tg := 20) i_J7_fill_53178_7 (by decide) (fun c7 => ?_) (fun c7 => ?_)
    · rw [if_pos c7] at hf
      refine ev_sub (lc2 := [none, none, none, none]) ⟨Or.inl rfl, Or.inl rfl, Or.inl rfl, Or.inl rfl, trivial⟩ ?_
      exact hk20 h _ hf
    · rw [if_neg c7] at hf
      refine ev_aload_n i_J7_fill_53178_10 rfl ?_
      refine ev_iload_n i_J7_fill_53178_11 rfl ?_
      refine ev_iload_n i_J7_fill_53178_12 rfl ?_
      obtain ⟨h13, e13, hf⟩ := ob hf
      refine ev_sI i_J7_fill_53178_13 e13 ?_
      refine ev_iinc (y := (x2 + (1 : Int32))) i_J7_fill_53178_14 rfl rfl (by decide) ?_
      refine ev_goto (tg := 5) i_J7_fill_53178_17 (by decide) ?_
      exact ih h13 (x2 + (1 : Int32)) _ hf
def f_J7_fill_53178 (h : MH) (a0 : Nat) (x1 : Int32) : Option MH := (aL h a0).bind fun v3 => f_J7_fill_53178_L5 (fun he20 => some he20) a0 x1 v3 fuel h (0 : Int32)
set_option maxRecDepth 20000 in
theorem e_J7_fill_53178 {G : GG} {h : MH} {a0 : Nat} {x1 : Int32} {r : MH} (hf : f_J7_fill_53178 h a0 x1 = some r) : Ev G 0 M_J7_fill_53178 0 (ent M_J7_fill_53178 [.ref a0, .int x1]) [] h none r := by
  unfold f_J7_fill_53178 at hf
  show Ev G 0 M_J7_fill_53178 0 [some (.ref a0), some (.int x1), none, none] [] h none r
  refine ev_iconst i_J7_fill_53178_0 lt_i_0 ?_
  refine ev_istore_n i_J7_fill_53178_1 (by decide) ?_
  refine ev_aload_n i_J7_fill_53178_2 rfl ?_
  obtain ⟨v3, e3, hf⟩ := ob hf
  refine ev_aL i_J7_fill_53178_3 e3 ?_
  refine ev_istore_n i_J7_fill_53178_4 (by decide) ?_
  exact l_J7_fill_53178_5 (fun he20 r hf => by
    cases hf
    exact ev_vret i_J7_fill_53178_20 rfl) fuel h (0 : Int32) _ hf
def f_X5_init (h : MH) (a0 : Nat) : Option MH := (pR (mm_na h 11 6) a0 5 0 (mm_N h)).bind fun h9 => (pR (mm_na h9 11 6) a0 5 1 (mm_N h9)).bind fun h17 => (pR (mm_na h17 11 6) a0 5 2 (mm_N h17)).bind fun h25 => (pR (mm_na h25 11 6) a0 5 3 (mm_N h25)).bind fun h33 => (pR (mm_na h33 11 16) a0 5 4 (mm_N h33)).bind fun h41 => (gR h41 a0 5 4).bind fun b45 => (f_J7_fill_53178 h41 b45 (4 : Int32)).bind fun h49 => some h49
set_option maxRecDepth 20000 in
theorem e_X5_init {G : GG} {h : MH} {a0 : Nat} {r : MH} (hf : f_X5_init h a0 = some r) : Ev G 1 M_X5_init 0 (ent M_X5_init [.ref a0]) [] h none r := by
  unfold f_X5_init at hf
  show Ev G 1 M_X5_init 0 [some (.ref a0)] [] h none r
  refine ev_aload_n i_X5_init_0 rfl ?_
  refine ev_objI i_X5_init_1 ml_X5_3 go_1 go_2 (Nat.le_of_ble_eq_true rfl) (by decide) ?_
  refine ev_aload_n i_X5_init_4 rfl ?_
  refine ev_bipush i_X5_init_5 lt_b_6 ?_
  refine ev_nA (kd := 11) i_X5_init_7 (Or.inl ⟨rfl, rfl⟩) ga_i (by decide) (by decide : _ = 6) (by decide) ?_
  obtain ⟨h9, e9, hf⟩ := ob hf
  refine ev_pR i_X5_init_9 fp_X5_init_9 rfl e9 ?_
  refine ev_aload_n i_X5_init_12 rfl ?_
  refine ev_bipush i_X5_init_13 lt_b_6 ?_
  refine ev_nA (kd := 11) i_X5_init_15 (Or.inl ⟨rfl, rfl⟩) ga_i (by decide) (by decide : _ = 6) (by decide) ?_
  obtain ⟨h17, e17, hf⟩ := ob hf
  refine ev_pR i_X5_init_17 fp_X5_init_15 rfl e17 ?_
  refine ev_aload_n i_X5_init_20 rfl ?_
  refine ev_bipush i_X5_init_21 lt_b_6 ?_
  refine ev_nA (kd := 11) i_X5_init_23 (Or.inl ⟨rfl, rfl⟩) ga_i (by decide) (by decide : _ = 6) (by decide) ?_
  obtain ⟨h25, e25, hf⟩ := ob hf
  refine ev_pR i_X5_init_25 fp_X5_init_18 rfl e25 ?_
  refine ev_aload_n i_X5_init_28 rfl ?_
  refine ev_bipush i_X5_init_29 lt_b_6 ?_
  refine ev_nA (kd := 11) i_X5_init_31 (Or.inl ⟨rfl, rfl⟩) ga_i (by decide) (by decide : _ = 6) (by decide) ?_
  obtain ⟨h33, e33, hf⟩ := ob hf
  refine ev_pR i_X5_init_33 fp_X5_init_21 rfl e33 ?_
  refine ev_aload_n i_X5_init_36 rfl ?_
  refine ev_bipush i_X5_init_37 lt_b_16 ?_
  refine ev_nA (kd := 11) i_X5_init_39 (Or.inl ⟨rfl, rfl⟩) ga_i (by decide) (by decide : _ = 16) (by decide) ?_
  obtain ⟨h41, e41, hf⟩ := ob hf
  refine ev_pR i_X5_init_41 fp_X5_init_24 rfl e41 ?_
  refine ev_aload_n i_X5_init_44 rfl ?_
  obtain ⟨b45, e45, hf⟩ := ob hf
  refine ev_gR i_X5_init_45 fl_X5_24 rfl e45 ?_
  refine ev_iconst i_X5_init_48 lt_i_4 ?_
  obtain ⟨h49, e49, hf⟩ := ob hf
  refine ev_cS_v i_X5_init_49 lk_X5_init_27 [.ref b45, .int (4 : Int32)] rfl rfl (by decide) (Nat.le_of_ble_eq_true rfl) (by decide) (e_J7_fill_53178 e49) ?_
  cases hf
  exact ev_vret i_X5_init_52 rfl
def f_X5_findActs_L15 (k78 : Int32 → Option MH) (h : MH) (a0 : Nat) (x1 : Int32) : Nat → Int32 → Int32 → Int32 → Option MH
  | 0, _, _, _ => none
  | n + 1, x2, x3, x4 => (gI h a0 5 5).bind fun v18 => (if v18 ≤ x4 then (k78 x3) else ((gR h a0 5 2).bind fun b25 => (aI h b25 x4).bind fun v30 => (if v30 ≤ x2 then (f_X5_findActs_L15 k78 h a0 x1 n x2 x3 (x4 + (1 : Int32))) else ((gR h a0 5 0).bind fun b36 => (aI h b36 x4).bind fun v41 => (gR h a0 5 1).bind fun b43 => (aI h b43 x4).bind fun v48 => (f_X9_spanHas h v41 v48 x1).bind fun v50 => (if v50 = 0 then (f_X5_findActs_L15 k78 h a0 x1 n x2 x3 (x4 + (1 : Int32))) else ((gR h a0 5 2).bind fun b57 => (aI h b57 x4).bind fun v62 => (gR h a0 5 3).bind fun b65 => (aI h b65 x4).bind fun v70 => f_X5_findActs_L15 k78 h a0 x1 n v62 v70 (x4 + (1 : Int32))))))))
set_option maxRecDepth 20000 in
theorem l_X5_findActs_15 {G : GG} {k78 : Int32 → Option MH} {h : MH} {a0 : Nat} {x1 : Int32} (hk78 : ∀ (x3z : Int32) (r : MH), k78 x3z = some r → Ev G 1 M_X5_findActs 78 [some (.ref a0), some (.int x1), none, some (.int x3z), none] [] h none r) : ∀ (n : Nat) (x2 : Int32) (x3 : Int32) (x4 : Int32) (r : MH), f_X5_findActs_L15 k78 h a0 x1 n x2 x3 x4 = some r → Ev G 1 M_X5_findActs 15 [some (.ref a0), some (.int x1), some (.int x2), some (.int x3), some (.int x4)] [] h none r := by
  intro n
  induction n with
  | zero => intro x2 x3 x4 r hf; rw [f_X5_findActs_L15] at hf; cases hf
  | succ n ih =>
    intro x2 x3 x4 r hf
    rw [f_X5_findActs_L15] at hf
    refine ev_iload i_X5_findActs_15 rfl ?_
    refine ev_aload_n i_X5_findActs_17 rfl ?_
    obtain ⟨v18, e18, hf⟩ := ob hf
    refine ev_gI i_X5_findActs_18 fl_X5_33 rfl e18 ?_
    refine ev_icmp_ge (tg := 78) i_X5_findActs_21 (by decide) (fun c21 => ?_) (fun c21 => ?_)
    · rw [if_pos c21] at hf
      refine ev_sub (lc2 := [some (.ref a0), some (.int x1), none, some (.int x3), none]) ⟨Or.inr rfl, Or.inr rfl, Or.inl rfl, Or.inr rfl, Or.inl rfl, trivial⟩ ?_
      exact hk78 x3 _ hf
    · rw [if_neg c21] at hf
      refine ev_aload_n i_X5_findActs_24 rfl ?_
      obtain ⟨b25, e25, hf⟩ := ob hf
      refine ev_gR i_X5_findActs_25 fl_X5_18 rfl e25 ?_
      refine ev_iload i_X5_findActs_28 rfl ?_
      obtain ⟨v30, e30, hf⟩ := ob hf
      refine ev_aI i_X5_findActs_30 e30 ?_
      refine ev_iload_n i_X5_findActs_31 rfl ?_
      refine ev_icmp_le (tg := 72) i_X5_findActs_32 (by decide) (fun c32 => ?_) (fun c32 => ?_)
      · rw [if_pos c32] at hf
        refine ev_iinc (y := (x4 + (1 : Int32))) i_X5_findActs_72 rfl rfl (by decide) ?_
        refine ev_goto (tg := 15) i_X5_findActs_75 (by decide) ?_
        exact ih x2 x3 (x4 + (1 : Int32)) _ hf
      · rw [if_neg c32] at hf
        refine ev_aload_n i_X5_findActs_35 rfl ?_
        obtain ⟨b36, e36, hf⟩ := ob hf
        refine ev_gR i_X5_findActs_36 fl_X5_9 rfl e36 ?_
        refine ev_iload i_X5_findActs_39 rfl ?_
        obtain ⟨v41, e41, hf⟩ := ob hf
        refine ev_aI i_X5_findActs_41 e41 ?_
        refine ev_aload_n i_X5_findActs_42 rfl ?_
        obtain ⟨b43, e43, hf⟩ := ob hf
        refine ev_gR i_X5_findActs_43 fl_X5_15 rfl e43 ?_
        refine ev_iload i_X5_findActs_46 rfl ?_
        obtain ⟨v48, e48, hf⟩ := ob hf
        refine ev_aI i_X5_findActs_48 e48 ?_
        refine ev_iload_n i_X5_findActs_49 rfl ?_
        obtain ⟨v50, e50, hf⟩ := ob hf
        refine ev_cS_i i_X5_findActs_50 lk_X5_findActs_44 [.int v41, .int v48, .int x1] rfl rfl (by decide) (Nat.le_of_ble_eq_true rfl) (by decide) (e_X9_spanHas e50) ?_
        refine ev_if_eq (tg := 72) i_X5_findActs_53 (by decide) (fun c53 => ?_) (fun c53 => ?_)
        · rw [if_pos c53] at hf
          refine ev_iinc (y := (x4 + (1 : Int32))) i_X5_findActs_72 rfl rfl (by decide) ?_
          refine ev_goto (tg := 15) i_X5_findActs_75 (by decide) ?_
          exact ih x2 x3 (x4 + (1 : Int32)) _ hf
        · rw [if_neg c53] at hf
          refine ev_aload_n i_X5_findActs_56 rfl ?_
          obtain ⟨b57, e57, hf⟩ := ob hf
          refine ev_gR i_X5_findActs_57 fl_X5_18 rfl e57 ?_
          refine ev_iload i_X5_findActs_60 rfl ?_
          obtain ⟨v62, e62, hf⟩ := ob hf
          refine ev_aI i_X5_findActs_62 e62 ?_
          refine ev_istore_n i_X5_findActs_63 (by decide) ?_
          refine ev_aload_n i_X5_findActs_64 rfl ?_
          obtain ⟨b65, e65, hf⟩ := ob hf
          refine ev_gR i_X5_findActs_65 fl_X5_21 rfl e65 ?_
          refine ev_iload i_X5_findActs_68 rfl ?_
          obtain ⟨v70, e70, hf⟩ := ob hf
          refine ev_aI i_X5_findActs_70 e70 ?_
          refine ev_istore_n i_X5_findActs_71 (by decide) ?_
          refine ev_iinc (y := (x4 + (1 : Int32))) i_X5_findActs_72 rfl rfl (by decide) ?_
          refine ev_goto (tg := 15) i_X5_findActs_75 (by decide) ?_
          exact ih v62 v70 (x4 + (1 : Int32)) _ hf
def f_X5_findActs_L2 (k91 : MH → Option MH) (a0 : Nat) : Nat → MH → Int32 → Option MH
  | 0, _, _ => none
  | n + 1, h, x1 => (if (16 : Int32) ≤ x1 then (k91 h) else (f_X5_findActs_L15 (fun x3e78 => (gR h a0 5 4).bind fun b79 => (sI h b79 x1 x3e78).bind fun h84 => f_X5_findActs_L2 k91 a0 n h84 (x1 + (1 : Int32))) h a0 x1 fuel (-1 : Int32) (4 : Int32) (0 : Int32)))
set_option maxRecDepth 20000 in
theorem l_X5_findActs_2 {G : GG} {k91 : MH → Option MH} {a0 : Nat} (hk91 : ∀ (hz : MH) (r : MH), k91 hz = some r → Ev G 1 M_X5_findActs 91 [none, none, none, none, none] [] hz none r) : ∀ (n : Nat) (h : MH) (x1 : Int32) (r : MH), f_X5_findActs_L2 k91 a0 n h x1 = some r → Ev G 1 M_X5_findActs 2 [some (.ref a0), some (.int x1), none, none, none] [] h none r := by
  intro n
  induction n with
  | zero => intro h x1 r hf; rw [f_X5_findActs_L2] at hf; cases hf
  | succ n ih =>
    intro h x1 r hf
    rw [f_X5_findActs_L2] at hf
    refine ev_iload_n i_X5_findActs_2 rfl ?_
    refine ev_bipush i_X5_findActs_3 lt_b_16 ?_
    refine ev_icmp_ge (tg := 91) i_X5_findActs_5 (by decide) (fun c5 => ?_) (fun c5 => ?_)
    · rw [if_pos c5] at hf
      refine ev_sub (lc2 := [none, none, none, none, none]) ⟨Or.inl rfl, Or.inl rfl, Or.inr rfl, Or.inr rfl, Or.inr rfl, trivial⟩ ?_
      exact hk91 h _ hf
    · rw [if_neg c5] at hf
      refine ev_iconst i_X5_findActs_8 lt_i_m1 ?_
      refine ev_istore_n i_X5_findActs_9 (by decide) ?_
      refine ev_iconst i_X5_findActs_10 lt_i_4 ?_
      refine ev_istore_n i_X5_findActs_11 (by decide) ?_
      refine ev_iconst i_X5_findActs_12 lt_i_0 ?_
      refine ev_istore i_X5_findActs_13 (by decide) ?_
      exact l_X5_findActs_15 (fun x3e78 r hf => by
        refine ev_aload_n i_X5_findActs_78 rfl ?_
        obtain ⟨b79, e79, hf⟩ := ob hf
        refine ev_gR i_X5_findActs_79 fl_X5_24 rfl e79 ?_
        refine ev_iload_n i_X5_findActs_82 rfl ?_
        refine ev_iload_n i_X5_findActs_83 rfl ?_
        obtain ⟨h84, e84, hf⟩ := ob hf
        refine ev_sI i_X5_findActs_84 e84 ?_
        refine ev_iinc (y := (x1 + (1 : Int32))) i_X5_findActs_85 rfl rfl (by decide) ?_
        refine ev_goto (tg := 2) i_X5_findActs_88 (by decide) ?_
        refine ev_sub (lc2 := [some (.ref a0), some (.int (x1 + (1 : Int32))), none, none, none]) ⟨Or.inr rfl, Or.inr rfl, Or.inr rfl, Or.inl rfl, Or.inr rfl, trivial⟩ ?_
        exact ih h84 (x1 + (1 : Int32)) _ hf) fuel (-1 : Int32) (4 : Int32) (0 : Int32) _ hf
def f_X5_findActs (h : MH) (a0 : Nat) : Option MH := gK h a0 5 (f_X5_findActs_L2 (fun he91 => some he91) a0 fuel h (0 : Int32))
set_option maxRecDepth 20000 in
theorem e_X5_findActs {G : GG} {h : MH} {a0 : Nat} {r : MH} (hf : f_X5_findActs h a0 = some r) : Ev G 1 M_X5_findActs 0 (ent M_X5_findActs [.ref a0]) [] h none r := by
  unfold f_X5_findActs at hf
  show Ev G 1 M_X5_findActs 0 [some (.ref a0), none, none, none, none] [] h none r
  obtain ⟨-, hf⟩ := gK_of hf
  refine ev_iconst i_X5_findActs_0 lt_i_0 ?_
  refine ev_istore_n i_X5_findActs_1 (by decide) ?_
  exact l_X5_findActs_2 (fun he91 r hf => by
    cases hf
    exact ev_vret i_X5_findActs_91 rfl) fuel h (0 : Int32) _ hf
def f_X5_clear (h : MH) (a0 : Nat) : Option MH := gK h a0 5 ((pI h a0 5 5 (0 : Int32)).bind fun h2 => (f_X5_findActs h2 a0).bind fun h6 => some h6)
set_option maxRecDepth 20000 in
theorem e_X5_clear {G : GG} {h : MH} {a0 : Nat} {r : MH} (hf : f_X5_clear h a0 = some r) : Ev G 2 M_X5_clear 0 (ent M_X5_clear [.ref a0]) [] h none r := by
  unfold f_X5_clear at hf
  show Ev G 2 M_X5_clear 0 [some (.ref a0)] [] h none r
  obtain ⟨-, hf⟩ := gK_of hf
  refine ev_aload_n i_X5_clear_0 rfl ?_
  refine ev_iconst i_X5_clear_1 lt_i_0 ?_
  obtain ⟨h2, e2, hf⟩ := ob hf
  refine ev_pI i_X5_clear_2 fp_X5_clear_33 rfl e2 ?_
  refine ev_aload_n i_X5_clear_5 rfl ?_
  obtain ⟨h6, e6, hf⟩ := ob hf
  refine ev_cV_v i_X5_clear_6 lk_X5_clear_37 [] rfl rfl (by decide) (gK_of e6).1.1 (gK_of e6).1.2 (Nat.le_of_ble_eq_true rfl) (by decide) (e_X5_findActs e6) ?_
  cases hf
  exact ev_vret i_X5_clear_9 rfl
def f_X5_size (h : MH) (a0 : Nat) : Option Int32 := gK h a0 5 ((gI h a0 5 5).bind fun v1 => some v1)
set_option maxRecDepth 20000 in
theorem e_X5_size {G : GG} {h : MH} {a0 : Nat} {r : Int32} (hf : f_X5_size h a0 = some r) : Ev G 0 M_X5_size 0 (ent M_X5_size [.ref a0]) [] h (some (.int r)) h := by
  unfold f_X5_size at hf
  show Ev G 0 M_X5_size 0 [some (.ref a0)] [] h (some (.int r)) h
  obtain ⟨-, hf⟩ := gK_of hf
  refine ev_aload_n i_X5_size_0 rfl ?_
  obtain ⟨v1, e1, hf⟩ := ob hf
  refine ev_gI i_X5_size_1 fl_X5_33 rfl e1 ?_
  cases hf
  exact ev_iiret i_X5_size_4 rfl
def f_X5_separates_L2 (k53 : Option Int32) (h : MH) (a0 : Nat) (x1 : Int32) (x2 : Int32) : Nat → Int32 → Option Int32
  | 0, _ => none
  | n + 1, x3 => (gI h a0 5 5).bind fun v4 => (if v4 ≤ x3 then (k53 ) else ((gR h a0 5 0).bind fun b11 => (aI h b11 x3).bind fun v15 => (gR h a0 5 1).bind fun b17 => (aI h b17 x3).bind fun v21 => (f_X9_spanHas h v15 v21 x1).bind fun v23 => (gR h a0 5 0).bind fun b27 => (aI h b27 x3).bind fun v31 => (gR h a0 5 1).bind fun b33 => (aI h b33 x3).bind fun v37 => (f_X9_spanHas h v31 v37 x2).bind fun v39 => (if v23 = v39 then (f_X5_separates_L2 k53 h a0 x1 x2 n (x3 + (1 : Int32))) else (some (1 : Int32)))))
set_option maxRecDepth 20000 in
theorem l_X5_separates_2 {G : GG} {k53 : Option Int32} {h : MH} {a0 : Nat} {x1 : Int32} {x2 : Int32} (hk53 : ∀  (r : Int32), k53  = some r → Ev G 1 M_X5_separates 53 [none, none, none, none] [] h (some (.int r)) h) : ∀ (n : Nat) (x3 : Int32) (r : Int32), f_X5_separates_L2 k53 h a0 x1 x2 n x3 = some r → Ev G 1 M_X5_separates 2 [some (.ref a0), some (.int x1), some (.int x2), some (.int x3)] [] h (some (.int r)) h := by
  intro n
  induction n with
  | zero => intro x3 r hf; rw [f_X5_separates_L2] at hf; cases hf
  | succ n ih =>
    intro x3 r hf
    rw [f_X5_separates_L2] at hf
    refine ev_iload_n i_X5_separates_2 rfl ?_
    refine ev_aload_n i_X5_separates_3 rfl ?_
    obtain ⟨v4, e4, hf⟩ := ob hf
    refine ev_gI i_X5_separates_4 fl_X5_33 rfl e4 ?_
    refine ev_icmp_ge (tg := 53) i_X5_separates_7 (by decide) (fun c7 => ?_) (fun c7 => ?_)
    · rw [if_pos c7] at hf
      refine ev_sub (lc2 := [none, none, none, none]) ⟨Or.inl rfl, Or.inl rfl, Or.inl rfl, Or.inl rfl, trivial⟩ ?_
      exact hk53  _ hf
    · rw [if_neg c7] at hf
      refine ev_aload_n i_X5_separates_10 rfl ?_
      obtain ⟨b11, e11, hf⟩ := ob hf
      refine ev_gR i_X5_separates_11 fl_X5_9 rfl e11 ?_
      refine ev_iload_n i_X5_separates_14 rfl ?_
      obtain ⟨v15, e15, hf⟩ := ob hf
      refine ev_aI i_X5_separates_15 e15 ?_
      refine ev_aload_n i_X5_separates_16 rfl ?_
      obtain ⟨b17, e17, hf⟩ := ob hf
      refine ev_gR i_X5_separates_17 fl_X5_15 rfl e17 ?_
      refine ev_iload_n i_X5_separates_20 rfl ?_
      obtain ⟨v21, e21, hf⟩ := ob hf
      refine ev_aI i_X5_separates_21 e21 ?_
      refine ev_iload_n i_X5_separates_22 rfl ?_
      obtain ⟨v23, e23, hf⟩ := ob hf
      refine ev_cS_i i_X5_separates_23 lk_X5_separates_44 [.int v15, .int v21, .int x1] rfl rfl (by decide) (Nat.le_of_ble_eq_true rfl) (by decide) (e_X9_spanHas e23) ?_
      refine ev_aload_n i_X5_separates_26 rfl ?_
      obtain ⟨b27, e27, hf⟩ := ob hf
      refine ev_gR i_X5_separates_27 fl_X5_9 rfl e27 ?_
      refine ev_iload_n i_X5_separates_30 rfl ?_
      obtain ⟨v31, e31, hf⟩ := ob hf
      refine ev_aI i_X5_separates_31 e31 ?_
      refine ev_aload_n i_X5_separates_32 rfl ?_
      obtain ⟨b33, e33, hf⟩ := ob hf
      refine ev_gR i_X5_separates_33 fl_X5_15 rfl e33 ?_
      refine ev_iload_n i_X5_separates_36 rfl ?_
      obtain ⟨v37, e37, hf⟩ := ob hf
      refine ev_aI i_X5_separates_37 e37 ?_
      refine ev_iload_n i_X5_separates_38 rfl ?_
      obtain ⟨v39, e39, hf⟩ := ob hf
      refine ev_cS_i i_X5_separates_39 lk_X5_separates_44 [.int v31, .int v37, .int x2] rfl rfl (by decide) (Nat.le_of_ble_eq_true rfl) (by decide) (e_X9_spanHas e39) ?_
      refine ev_icmp_eq (tg := 47) i_X5_separates_42 (by decide) (fun c42 => ?_) (fun c42 => ?_)
      · rw [if_pos c42] at hf
        refine ev_iinc (y := (x3 + (1 : Int32))) i_X5_separates_47 rfl rfl (by decide) ?_
        refine ev_goto (tg := 2) i_X5_separates_50 (by decide) ?_
        exact ih (x3 + (1 : Int32)) _ hf
      · rw [if_neg c42] at hf
        refine ev_iconst i_X5_separates_45 lt_i_1 ?_
        cases hf
        exact ev_zret i_X5_separates_46 rfl (by decide)
def f_X5_separates (h : MH) (a0 : Nat) (x1 : Int32) (x2 : Int32) : Option Int32 := gK h a0 5 (f_X5_separates_L2 (some (0 : Int32)) h a0 x1 x2 fuel (0 : Int32))
set_option maxRecDepth 20000 in
theorem e_X5_separates {G : GG} {h : MH} {a0 : Nat} {x1 : Int32} {x2 : Int32} {r : Int32} (hf : f_X5_separates h a0 x1 x2 = some r) : Ev G 1 M_X5_separates 0 (ent M_X5_separates [.ref a0, .int x1, .int x2]) [] h (some (.int r)) h := by
  unfold f_X5_separates at hf
  show Ev G 1 M_X5_separates 0 [some (.ref a0), some (.int x1), some (.int x2), none] [] h (some (.int r)) h
  obtain ⟨-, hf⟩ := gK_of hf
  refine ev_iconst i_X5_separates_0 lt_i_0 ?_
  refine ev_istore_n i_X5_separates_1 (by decide) ?_
  exact l_X5_separates_2 (fun  r hf => by
    refine ev_iconst i_X5_separates_53 lt_i_0 ?_
    cases hf
    exact ev_zret i_X5_separates_54 rfl (by decide)) fuel (0 : Int32) _ hf
def f_X2_init (h : MH) (a0 : Nat) : Option MH := (f_X8_init (mm_no h 8) (mm_N h)).bind fun h9 => (pR h9 a0 2 0 (mm_N h)).bind fun h12 => some h12
set_option maxRecDepth 20000 in
theorem e_X2_init {G : GG} {h : MH} {a0 : Nat} {r : MH} (hf : f_X2_init h a0 = some r) : Ev G 2 M_X2_init 0 (ent M_X2_init [.ref a0]) [] h none r := by
  unfold f_X2_init at hf
  show Ev G 2 M_X2_init 0 [some (.ref a0)] [] h none r
  refine ev_aload_n i_X2_init_0 rfl ?_
  refine ev_objI i_X2_init_1 ml_X2_3 go_1 go_2 (Nat.le_of_ble_eq_true rfl) (by decide) ?_
  refine ev_aload_n i_X2_init_4 rfl ?_
  refine ev_new i_X2_init_5 nc_X2_9 ?_
  refine ev_dup i_X2_init_8 ?_
  obtain ⟨h9, e9, hf⟩ := ob hf
  refine ev_cI_v i_X2_init_9 lk_X2_init_11 [] rfl rfl (by decide) (Nat.le_of_ble_eq_true rfl) (by decide) (e_X8_init e9) ?_
  obtain ⟨h12, e12, hf⟩ := ob hf
  refine ev_pR i_X2_init_12 fp_X2_init_12 rfl e12 ?_
  cases hf
  exact ev_vret i_X2_init_15 rfl
def f_X2_putInAt (h : MH) (a0 : Nat) (x1 : Int32) (x2 : Int32) (x3 : Int32) : Option MH := gK h a0 2 ((pI h a0 2 1 x1).bind fun h2 => (pI h2 a0 2 2 x2).bind fun h7 => (gR h7 a0 2 0).bind fun b11 => (f_X8_startAt h7 b11 x3).bind fun h15 => some h15)
set_option maxRecDepth 20000 in
theorem e_X2_putInAt {G : GG} {h : MH} {a0 : Nat} {x1 : Int32} {x2 : Int32} {x3 : Int32} {r : MH} (hf : f_X2_putInAt h a0 x1 x2 x3 = some r) : Ev G 1 M_X2_putInAt 0 (ent M_X2_putInAt [.ref a0, .int x1, .int x2, .int x3]) [] h none r := by
  unfold f_X2_putInAt at hf
  show Ev G 1 M_X2_putInAt 0 [some (.ref a0), some (.int x1), some (.int x2), some (.int x3)] [] h none r
  obtain ⟨-, hf⟩ := gK_of hf
  refine ev_aload_n i_X2_putInAt_0 rfl ?_
  refine ev_iload_n i_X2_putInAt_1 rfl ?_
  obtain ⟨h2, e2, hf⟩ := ob hf
  refine ev_pI i_X2_putInAt_2 fp_X2_putInAt_18 rfl e2 ?_
  refine ev_aload_n i_X2_putInAt_5 rfl ?_
  refine ev_iload_n i_X2_putInAt_6 rfl ?_
  obtain ⟨h7, e7, hf⟩ := ob hf
  refine ev_pI i_X2_putInAt_7 fp_X2_putInAt_22 rfl e7 ?_
  refine ev_aload_n i_X2_putInAt_10 rfl ?_
  obtain ⟨b11, e11, hf⟩ := ob hf
  refine ev_gR i_X2_putInAt_11 fl_X2_12 rfl e11 ?_
  refine ev_iload_n i_X2_putInAt_14 rfl ?_
  obtain ⟨h15, e15, hf⟩ := ob hf
  refine ev_cV_v i_X2_putInAt_15 lk_X2_putInAt_25 [.int x3] rfl rfl (by decide) (gK_of e15).1.1 (gK_of e15).1.2 (Nat.le_of_ble_eq_true rfl) (by decide) (e_X8_startAt e15) ?_
  cases hf
  exact ev_vret i_X2_putInAt_18 rfl
def f_X2_isUnderWay (h : MH) (a0 : Nat) : Option Int32 := gK h a0 2 ((gR h a0 2 0).bind fun b1 => (f_X8_end h b1).bind fun v4 => (if v4 = (-1 : Int32) then (some (1 : Int32)) else (some (0 : Int32))))
set_option maxRecDepth 20000 in
theorem e_X2_isUnderWay {G : GG} {h : MH} {a0 : Nat} {r : Int32} (hf : f_X2_isUnderWay h a0 = some r) : Ev G 1 M_X2_isUnderWay 0 (ent M_X2_isUnderWay [.ref a0]) [] h (some (.int r)) h := by
  unfold f_X2_isUnderWay at hf
  show Ev G 1 M_X2_isUnderWay 0 [some (.ref a0)] [] h (some (.int r)) h
  obtain ⟨-, hf⟩ := gK_of hf
  refine ev_aload_n i_X2_isUnderWay_0 rfl ?_
  obtain ⟨b1, e1, hf⟩ := ob hf
  refine ev_gR i_X2_isUnderWay_1 fl_X2_12 rfl e1 ?_
  obtain ⟨v4, e4, hf⟩ := ob hf
  refine ev_cV_i i_X2_isUnderWay_4 lk_X2_isUnderWay_29 [] rfl rfl (by decide) (gK_of e4).1.1 (gK_of e4).1.2 (Nat.le_of_ble_eq_true rfl) (by decide) (e_X8_end e4) ?_
  refine ev_iconst i_X2_isUnderWay_7 lt_i_m1 ?_
  refine ev_icmp_ne (tg := 15) i_X2_isUnderWay_8 (by decide) (fun c8 => ?_) (fun c8 => ?_)
  · rw [if_neg c8] at hf
    refine ev_iconst i_X2_isUnderWay_15 lt_i_0 ?_
    cases hf
    exact ev_zret i_X2_isUnderWay_16 rfl (by decide)
  · rw [if_pos c8] at hf
    refine ev_iconst i_X2_isUnderWay_11 lt_i_1 ?_
    refine ev_goto (tg := 16) i_X2_isUnderWay_12 (by decide) ?_
    cases hf
    exact ev_zret i_X2_isUnderWay_16 rfl (by decide)
def f_X2_place (h : MH) (a0 : Nat) : Option Int32 := gK h a0 2 ((gR h a0 2 0).bind fun b1 => (f_X8_last h b1).bind fun v4 => some v4)
set_option maxRecDepth 20000 in
theorem e_X2_place {G : GG} {h : MH} {a0 : Nat} {r : Int32} (hf : f_X2_place h a0 = some r) : Ev G 1 M_X2_place 0 (ent M_X2_place [.ref a0]) [] h (some (.int r)) h := by
  unfold f_X2_place at hf
  show Ev G 1 M_X2_place 0 [some (.ref a0)] [] h (some (.int r)) h
  obtain ⟨-, hf⟩ := gK_of hf
  refine ev_aload_n i_X2_place_0 rfl ?_
  obtain ⟨b1, e1, hf⟩ := ob hf
  refine ev_gR i_X2_place_1 fl_X2_12 rfl e1 ?_
  obtain ⟨v4, e4, hf⟩ := ob hf
  refine ev_cV_i i_X2_place_4 lk_X2_place_33 [] rfl rfl (by decide) (gK_of e4).1.1 (gK_of e4).1.2 (Nat.le_of_ble_eq_true rfl) (by decide) (e_X8_last e4) ?_
  cases hf
  exact ev_iiret i_X2_place_7 rfl
def f_X2_end (h : MH) (a0 : Nat) : Option Int32 := gK h a0 2 ((gR h a0 2 0).bind fun b1 => (f_X8_end h b1).bind fun v4 => some v4)
set_option maxRecDepth 20000 in
theorem e_X2_end {G : GG} {h : MH} {a0 : Nat} {r : Int32} (hf : f_X2_end h a0 = some r) : Ev G 1 M_X2_end 0 (ent M_X2_end [.ref a0]) [] h (some (.int r)) h := by
  unfold f_X2_end at hf
  show Ev G 1 M_X2_end 0 [some (.ref a0)] [] h (some (.int r)) h
  obtain ⟨-, hf⟩ := gK_of hf
  refine ev_aload_n i_X2_end_0 rfl ?_
  obtain ⟨b1, e1, hf⟩ := ob hf
  refine ev_gR i_X2_end_1 fl_X2_12 rfl e1 ?_
  obtain ⟨v4, e4, hf⟩ := ob hf
  refine ev_cV_i i_X2_end_4 lk_X2_end_29 [] rfl rfl (by decide) (gK_of e4).1.1 (gK_of e4).1.2 (Nat.le_of_ble_eq_true rfl) (by decide) (e_X8_end e4) ?_
  cases hf
  exact ev_iiret i_X2_end_7 rfl
def f_X8_length (h : MH) (a0 : Nat) : Option Int32 := gK h a0 8 ((gI h a0 8 1).bind fun v1 => some v1)
set_option maxRecDepth 20000 in
theorem e_X8_length {G : GG} {h : MH} {a0 : Nat} {r : Int32} (hf : f_X8_length h a0 = some r) : Ev G 0 M_X8_length 0 (ent M_X8_length [.ref a0]) [] h (some (.int r)) h := by
  unfold f_X8_length at hf
  show Ev G 0 M_X8_length 0 [some (.ref a0)] [] h (some (.int r)) h
  obtain ⟨-, hf⟩ := gK_of hf
  refine ev_aload_n i_X8_length_0 rfl ?_
  obtain ⟨v1, e1, hf⟩ := ob hf
  refine ev_gI i_X8_length_1 fl_X8_19 rfl e1 ?_
  cases hf
  exact ev_iiret i_X8_length_4 rfl
def f_X8_stop (h : MH) (a0 : Nat) (x1 : Int32) : Option Int32 := gK h a0 8 ((if x1 < 0 then (some (-1 : Int32)) else ((gI h a0 8 1).bind fun v6 => (if v6 ≤ x1 then (some (-1 : Int32)) else ((gR h a0 8 0).bind fun b13 => (aI h b13 x1).bind fun v17 => some v17)))))
set_option maxRecDepth 20000 in
theorem e_X8_stop {G : GG} {h : MH} {a0 : Nat} {x1 : Int32} {r : Int32} (hf : f_X8_stop h a0 x1 = some r) : Ev G 0 M_X8_stop 0 (ent M_X8_stop [.ref a0, .int x1]) [] h (some (.int r)) h := by
  unfold f_X8_stop at hf
  show Ev G 0 M_X8_stop 0 [some (.ref a0), some (.int x1)] [] h (some (.int r)) h
  obtain ⟨-, hf⟩ := gK_of hf
  refine ev_iload_n i_X8_stop_0 rfl ?_
  refine ev_if_lt (tg := 21) i_X8_stop_1 (by decide) (fun c1 => ?_) (fun c1 => ?_)
  · rw [if_pos c1] at hf
    refine ev_iconst i_X8_stop_21 lt_i_m1 ?_
    cases hf
    exact ev_iiret i_X8_stop_22 rfl
  · rw [if_neg c1] at hf
    refine ev_iload_n i_X8_stop_4 rfl ?_
    refine ev_aload_n i_X8_stop_5 rfl ?_
    obtain ⟨v6, e6, hf⟩ := ob hf
    refine ev_gI i_X8_stop_6 fl_X8_19 rfl e6 ?_
    refine ev_icmp_ge (tg := 21) i_X8_stop_9 (by decide) (fun c9 => ?_) (fun c9 => ?_)
    · rw [if_pos c9] at hf
      refine ev_iconst i_X8_stop_21 lt_i_m1 ?_
      cases hf
      exact ev_iiret i_X8_stop_22 rfl
    · rw [if_neg c9] at hf
      refine ev_aload_n i_X8_stop_12 rfl ?_
      obtain ⟨b13, e13, hf⟩ := ob hf
      refine ev_gR i_X8_stop_13 fl_X8_9 rfl e13 ?_
      refine ev_iload_n i_X8_stop_16 rfl ?_
      obtain ⟨v17, e17, hf⟩ := ob hf
      refine ev_aI i_X8_stop_17 e17 ?_
      refine ev_goto (tg := 22) i_X8_stop_18 (by decide) ?_
      cases hf
      exact ev_iiret i_X8_stop_22 rfl
def f_X2_tell (h : MH) (a0 : Nat) (x1 : Int32) : Option Int32 := gK h a0 2 ((if x1 = 0 then ((gI h a0 2 1).bind fun v37 => some v37) else (if x1 = 1 then ((gI h a0 2 2).bind fun v42 => some v42) else (if x1 = 2 then ((f_X2_isUnderWay h a0).bind fun v47 => (if v47 = 0 then (some (-1 : Int32)) else ((f_X2_place h a0).bind fun v54 => some v54))) else (if x1 = 3 then ((gR h a0 2 0).bind fun b63 => (f_X8_end h b63).bind fun v66 => some v66) else (if x1 = 4 then ((gR h a0 2 0).bind fun b71 => (f_X8_length h b71).bind fun v74 => some v74) else ((if x1 < (100 : Int32) then (some (-1 : Int32)) else ((gR h a0 2 0).bind fun b85 => (f_X8_stop h b85 (x1 - (100 : Int32))).bind fun v92 => some v92)))))))))
set_option maxRecDepth 20000 in
theorem e_X2_tell {G : GG} {h : MH} {a0 : Nat} {x1 : Int32} {r : Int32} (hf : f_X2_tell h a0 x1 = some r) : Ev G 2 M_X2_tell 0 (ent M_X2_tell [.ref a0, .int x1]) [] h (some (.int r)) h := by
  unfold f_X2_tell at hf
  show Ev G 2 M_X2_tell 0 [some (.ref a0), some (.int x1)] [] h (some (.int r)) h
  obtain ⟨-, hf⟩ := gK_of hf
  refine ev_iload_n i_X2_tell_0 rfl ?_
  by_cases c1_0 : x1 = 0
  · rw [if_pos c1_0] at hf
    refine ev_ts (tg := 36) 0 35 i_X2_tell_1 c1_0 (by decide) ?_
    refine ev_aload_n i_X2_tell_36 rfl ?_
    obtain ⟨v37, e37, hf⟩ := ob hf
    refine ev_gI i_X2_tell_37 fl_X2_18 rfl e37 ?_
    cases hf
    exact ev_iiret i_X2_tell_40 rfl
  rw [if_neg c1_0] at hf
  by_cases c1_1 : x1 = 1
  · rw [if_pos c1_1] at hf
    refine ev_ts (tg := 41) 1 40 i_X2_tell_1 c1_1 (by decide) ?_
    refine ev_aload_n i_X2_tell_41 rfl ?_
    obtain ⟨v42, e42, hf⟩ := ob hf
    refine ev_gI i_X2_tell_42 fl_X2_22 rfl e42 ?_
    cases hf
    exact ev_iiret i_X2_tell_45 rfl
  rw [if_neg c1_1] at hf
  by_cases c1_2 : x1 = 2
  · rw [if_pos c1_2] at hf
    refine ev_ts (tg := 46) 2 45 i_X2_tell_1 c1_2 (by decide) ?_
    refine ev_aload_n i_X2_tell_46 rfl ?_
    obtain ⟨v47, e47, hf⟩ := ob hf
    refine ev_cV_i i_X2_tell_47 lk_X2_tell_36 [] rfl rfl (by decide) (gK_of e47).1.1 (gK_of e47).1.2 (Nat.le_of_ble_eq_true rfl) (by decide) (e_X2_isUnderWay e47) ?_
    refine ev_if_eq (tg := 60) i_X2_tell_50 (by decide) (fun c50 => ?_) (fun c50 => ?_)
    · rw [if_pos c50] at hf
      refine ev_iconst i_X2_tell_60 lt_i_m1 ?_
      cases hf
      exact ev_iiret i_X2_tell_61 rfl
    · rw [if_neg c50] at hf
      refine ev_aload_n i_X2_tell_53 rfl ?_
      obtain ⟨v54, e54, hf⟩ := ob hf
      refine ev_cV_i i_X2_tell_54 lk_X2_tell_40 [] rfl rfl (by decide) (gK_of e54).1.1 (gK_of e54).1.2 (Nat.le_of_ble_eq_true rfl) (by decide) (e_X2_place e54) ?_
      refine ev_goto (tg := 61) i_X2_tell_57 (by decide) ?_
      cases hf
      exact ev_iiret i_X2_tell_61 rfl
  rw [if_neg c1_2] at hf
  by_cases c1_3 : x1 = 3
  · rw [if_pos c1_3] at hf
    refine ev_ts (tg := 62) 3 61 i_X2_tell_1 c1_3 (by decide) ?_
    refine ev_aload_n i_X2_tell_62 rfl ?_
    obtain ⟨b63, e63, hf⟩ := ob hf
    refine ev_gR i_X2_tell_63 fl_X2_12 rfl e63 ?_
    obtain ⟨v66, e66, hf⟩ := ob hf
    refine ev_cV_i i_X2_tell_66 lk_X2_tell_29 [] rfl rfl (by decide) (gK_of e66).1.1 (gK_of e66).1.2 (Nat.le_of_ble_eq_true rfl) (by decide) (e_X8_end e66) ?_
    cases hf
    exact ev_iiret i_X2_tell_69 rfl
  rw [if_neg c1_3] at hf
  by_cases c1_4 : x1 = 4
  · rw [if_pos c1_4] at hf
    refine ev_ts (tg := 70) 4 69 i_X2_tell_1 c1_4 (by decide) ?_
    refine ev_aload_n i_X2_tell_70 rfl ?_
    obtain ⟨b71, e71, hf⟩ := ob hf
    refine ev_gR i_X2_tell_71 fl_X2_12 rfl e71 ?_
    obtain ⟨v74, e74, hf⟩ := ob hf
    refine ev_cV_i i_X2_tell_74 lk_X2_tell_43 [] rfl rfl (by decide) (gK_of e74).1.1 (gK_of e74).1.2 (Nat.le_of_ble_eq_true rfl) (by decide) (e_X8_length e74) ?_
    cases hf
    exact ev_iiret i_X2_tell_77 rfl
  rw [if_neg c1_4] at hf
  refine ev_tsOut (tg := 78) i_X2_tell_1 (ts_out (n := 4) (by decide) (fun k hk => by rcases (show k = 0 ∨ k = 1 ∨ k = 2 ∨ k = 3 ∨ k = 4 by omega) with rfl | rfl | rfl | rfl | rfl <;> assumption)) (by decide) ?_
  refine ev_iload_n i_X2_tell_78 rfl ?_
  refine ev_bipush i_X2_tell_79 lt_b_100 ?_
  refine ev_icmp_lt (tg := 98) i_X2_tell_81 (by decide) (fun c81 => ?_) (fun c81 => ?_)
  · rw [if_pos c81] at hf
    refine ev_iconst i_X2_tell_98 lt_i_m1 ?_
    cases hf
    exact ev_iiret i_X2_tell_99 rfl
  · rw [if_neg c81] at hf
    refine ev_aload_n i_X2_tell_84 rfl ?_
    obtain ⟨b85, e85, hf⟩ := ob hf
    refine ev_gR i_X2_tell_85 fl_X2_12 rfl e85 ?_
    refine ev_iload_n i_X2_tell_88 rfl ?_
    refine ev_bipush i_X2_tell_89 lt_b_100 ?_
    refine ev_isub i_X2_tell_91 ?_
    obtain ⟨v92, e92, hf⟩ := ob hf
    refine ev_cV_i i_X2_tell_92 lk_X2_tell_46 [.int (x1 - (100 : Int32))] rfl rfl (by decide) (gK_of e92).1.1 (gK_of e92).1.2 (Nat.le_of_ble_eq_true rfl) (by decide) (e_X8_stop e92) ?_
    refine ev_goto (tg := 99) i_X2_tell_95 (by decide) ?_
    cases hf
    exact ev_iiret i_X2_tell_99 rfl
def f_X3_init (h : MH) (a0 : Nat) : Option MH := (pR (mm_na h 11 7) a0 3 0 (mm_N h)).bind fun h9 => some h9
set_option maxRecDepth 20000 in
theorem e_X3_init {G : GG} {h : MH} {a0 : Nat} {r : MH} (hf : f_X3_init h a0 = some r) : Ev G 1 M_X3_init 0 (ent M_X3_init [.ref a0]) [] h none r := by
  unfold f_X3_init at hf
  show Ev G 1 M_X3_init 0 [some (.ref a0)] [] h none r
  refine ev_aload_n i_X3_init_0 rfl ?_
  refine ev_objI i_X3_init_1 ml_X3_3 go_1 go_2 (Nat.le_of_ble_eq_true rfl) (by decide) ?_
  refine ev_aload_n i_X3_init_4 rfl ?_
  refine ev_bipush i_X3_init_5 lt_b_7 ?_
  refine ev_nA (kd := 11) i_X3_init_7 (Or.inl ⟨rfl, rfl⟩) ga_i (by decide) (by decide : _ = 7) (by decide) ?_
  obtain ⟨h9, e9, hf⟩ := ob hf
  refine ev_pR i_X3_init_9 fp_X3_init_9 rfl e9 ?_
  cases hf
  exact ev_vret i_X3_init_12 rfl
def f_X3_clear (h : MH) (a0 : Nat) : Option MH := gK h a0 3 ((pI h a0 3 1 (0 : Int32)).bind fun h2 => some h2)
set_option maxRecDepth 20000 in
theorem e_X3_clear {G : GG} {h : MH} {a0 : Nat} {r : MH} (hf : f_X3_clear h a0 = some r) : Ev G 0 M_X3_clear 0 (ent M_X3_clear [.ref a0]) [] h none r := by
  unfold f_X3_clear at hf
  show Ev G 0 M_X3_clear 0 [some (.ref a0)] [] h none r
  obtain ⟨-, hf⟩ := gK_of hf
  refine ev_aload_n i_X3_clear_0 rfl ?_
  refine ev_iconst i_X3_clear_1 lt_i_0 ?_
  obtain ⟨h2, e2, hf⟩ := ob hf
  refine ev_pI i_X3_clear_2 fp_X3_clear_15 rfl e2 ?_
  cases hf
  exact ev_vret i_X3_clear_5 rfl
def f_X3_add (h : MH) (a0 : Nat) (x1 : Int32) : Option MH := gK h a0 3 ((gI h a0 3 1).bind fun v1 => (if (7 : Int32) ≤ v1 then (some h) else ((gR h a0 3 0).bind fun b10 => (gI h a0 3 1).bind fun v14 => (sI h b10 v14 x1).bind fun h18 => (gI h18 a0 3 1).bind fun v21 => (pI h18 a0 3 1 (v21 + (1 : Int32))).bind fun h26 => some h26)))
set_option maxRecDepth 20000 in
theorem e_X3_add {G : GG} {h : MH} {a0 : Nat} {x1 : Int32} {r : MH} (hf : f_X3_add h a0 x1 = some r) : Ev G 0 M_X3_add 0 (ent M_X3_add [.ref a0, .int x1]) [] h none r := by
  unfold f_X3_add at hf
  show Ev G 0 M_X3_add 0 [some (.ref a0), some (.int x1)] [] h none r
  obtain ⟨-, hf⟩ := gK_of hf
  refine ev_aload_n i_X3_add_0 rfl ?_
  obtain ⟨v1, e1, hf⟩ := ob hf
  refine ev_gI i_X3_add_1 fl_X3_15 rfl e1 ?_
  refine ev_bipush i_X3_add_4 lt_b_7 ?_
  refine ev_icmp_ge (tg := 29) i_X3_add_6 (by decide) (fun c6 => ?_) (fun c6 => ?_)
  · rw [if_pos c6] at hf
    cases hf
    exact ev_vret i_X3_add_29 rfl
  · rw [if_neg c6] at hf
    refine ev_aload_n i_X3_add_9 rfl ?_
    obtain ⟨b10, e10, hf⟩ := ob hf
    refine ev_gR i_X3_add_10 fl_X3_9 rfl e10 ?_
    refine ev_aload_n i_X3_add_13 rfl ?_
    obtain ⟨v14, e14, hf⟩ := ob hf
    refine ev_gI i_X3_add_14 fl_X3_15 rfl e14 ?_
    refine ev_iload_n i_X3_add_17 rfl ?_
    obtain ⟨h18, e18, hf⟩ := ob hf
    refine ev_sI i_X3_add_18 e18 ?_
    refine ev_aload_n i_X3_add_19 rfl ?_
    refine ev_dup i_X3_add_20 ?_
    obtain ⟨v21, e21, hf⟩ := ob hf
    refine ev_gI i_X3_add_21 fl_X3_15 rfl e21 ?_
    refine ev_iconst i_X3_add_24 lt_i_1 ?_
    refine ev_iadd i_X3_add_25 ?_
    obtain ⟨h26, e26, hf⟩ := ob hf
    refine ev_pI i_X3_add_26 fp_X3_add_15 rfl e26 ?_
    cases hf
    exact ev_vret i_X3_add_29 rfl
def f_X3_size (h : MH) (a0 : Nat) : Option Int32 := gK h a0 3 ((gI h a0 3 1).bind fun v1 => some v1)
set_option maxRecDepth 20000 in
theorem e_X3_size {G : GG} {h : MH} {a0 : Nat} {r : Int32} (hf : f_X3_size h a0 = some r) : Ev G 0 M_X3_size 0 (ent M_X3_size [.ref a0]) [] h (some (.int r)) h := by
  unfold f_X3_size at hf
  show Ev G 0 M_X3_size 0 [some (.ref a0)] [] h (some (.int r)) h
  obtain ⟨-, hf⟩ := gK_of hf
  refine ev_aload_n i_X3_size_0 rfl ?_
  obtain ⟨v1, e1, hf⟩ := ob hf
  refine ev_gI i_X3_size_1 fl_X3_15 rfl e1 ?_
  cases hf
  exact ev_iiret i_X3_size_4 rfl
def f_X3_has (h : MH) (a0 : Nat) (x1 : Int32) : Option Int32 := gK h a0 3 ((if x1 < 0 then (some (0 : Int32)) else ((gI h a0 3 1).bind fun v6 => (if v6 ≤ x1 then (some (0 : Int32)) else (some (1 : Int32))))))
set_option maxRecDepth 20000 in
theorem e_X3_has {G : GG} {h : MH} {a0 : Nat} {x1 : Int32} {r : Int32} (hf : f_X3_has h a0 x1 = some r) : Ev G 0 M_X3_has 0 (ent M_X3_has [.ref a0, .int x1]) [] h (some (.int r)) h := by
  unfold f_X3_has at hf
  show Ev G 0 M_X3_has 0 [some (.ref a0), some (.int x1)] [] h (some (.int r)) h
  obtain ⟨-, hf⟩ := gK_of hf
  refine ev_iload_n i_X3_has_0 rfl ?_
  refine ev_if_lt (tg := 16) i_X3_has_1 (by decide) (fun c1 => ?_) (fun c1 => ?_)
  · rw [if_pos c1] at hf
    refine ev_iconst i_X3_has_16 lt_i_0 ?_
    cases hf
    exact ev_zret i_X3_has_17 rfl (by decide)
  · rw [if_neg c1] at hf
    refine ev_iload_n i_X3_has_4 rfl ?_
    refine ev_aload_n i_X3_has_5 rfl ?_
    obtain ⟨v6, e6, hf⟩ := ob hf
    refine ev_gI i_X3_has_6 fl_X3_15 rfl e6 ?_
    refine ev_icmp_ge (tg := 16) i_X3_has_9 (by decide) (fun c9 => ?_) (fun c9 => ?_)
    · rw [if_pos c9] at hf
      refine ev_iconst i_X3_has_16 lt_i_0 ?_
      cases hf
      exact ev_zret i_X3_has_17 rfl (by decide)
    · rw [if_neg c9] at hf
      refine ev_iconst i_X3_has_12 lt_i_1 ?_
      refine ev_goto (tg := 17) i_X3_has_13 (by decide) ?_
      cases hf
      exact ev_zret i_X3_has_17 rfl (by decide)
def f_X3_get (h : MH) (a0 : Nat) (x1 : Int32) : Option Int32 := gK h a0 3 ((f_X3_has h a0 x1).bind fun v2 => (if v2 = 0 then (some (0 : Int32)) else ((gR h a0 3 0).bind fun b9 => (aI h b9 x1).bind fun v13 => some v13)))
set_option maxRecDepth 20000 in
theorem e_X3_get {G : GG} {h : MH} {a0 : Nat} {x1 : Int32} {r : Int32} (hf : f_X3_get h a0 x1 = some r) : Ev G 1 M_X3_get 0 (ent M_X3_get [.ref a0, .int x1]) [] h (some (.int r)) h := by
  unfold f_X3_get at hf
  show Ev G 1 M_X3_get 0 [some (.ref a0), some (.int x1)] [] h (some (.int r)) h
  obtain ⟨-, hf⟩ := gK_of hf
  refine ev_aload_n i_X3_get_0 rfl ?_
  refine ev_iload_n i_X3_get_1 rfl ?_
  obtain ⟨v2, e2, hf⟩ := ob hf
  refine ev_cV_i i_X3_get_2 lk_X3_get_19 [.int x1] rfl rfl (by decide) (gK_of e2).1.1 (gK_of e2).1.2 (Nat.le_of_ble_eq_true rfl) (by decide) (e_X3_has e2) ?_
  refine ev_if_eq (tg := 17) i_X3_get_5 (by decide) (fun c5 => ?_) (fun c5 => ?_)
  · rw [if_pos c5] at hf
    refine ev_iconst i_X3_get_17 lt_i_0 ?_
    cases hf
    exact ev_iiret i_X3_get_18 rfl
  · rw [if_neg c5] at hf
    refine ev_aload_n i_X3_get_8 rfl ?_
    obtain ⟨b9, e9, hf⟩ := ob hf
    refine ev_gR i_X3_get_9 fl_X3_9 rfl e9 ?_
    refine ev_iload_n i_X3_get_12 rfl ?_
    obtain ⟨v13, e13, hf⟩ := ob hf
    refine ev_aI i_X3_get_13 e13 ?_
    refine ev_goto (tg := 18) i_X3_get_14 (by decide) ?_
    cases hf
    exact ev_iiret i_X3_get_18 rfl
def f_X3_membersAhead_L4 (k32 : Int32 → Option Int32) (h : MH) (a0 : Nat) (x1 : Int32) : Nat → Int32 → Int32 → Option Int32
  | 0, _, _ => none
  | n + 1, x2, x3 => (if x1 ≤ x3 then (k32 x2) else ((gI h a0 3 1).bind fun v11 => (if v11 ≤ x3 then (k32 x2) else ((gR h a0 3 0).bind fun b19 => (aI h b19 x3).bind fun v23 => f_X3_membersAhead_L4 k32 h a0 x1 n (x2 ||| v23) (x3 + (1 : Int32))))))
set_option maxRecDepth 20000 in
theorem l_X3_membersAhead_4 {G : GG} {k32 : Int32 → Option Int32} {h : MH} {a0 : Nat} {x1 : Int32} (hk32 : ∀ (x2z : Int32) (r : Int32), k32 x2z = some r → Ev G 0 M_X3_membersAhead 32 [none, none, some (.int x2z), none] [] h (some (.int r)) h) : ∀ (n : Nat) (x2 : Int32) (x3 : Int32) (r : Int32), f_X3_membersAhead_L4 k32 h a0 x1 n x2 x3 = some r → Ev G 0 M_X3_membersAhead 4 [some (.ref a0), some (.int x1), some (.int x2), some (.int x3)] [] h (some (.int r)) h := by
  intro n
  induction n with
  | zero => intro x2 x3 r hf; rw [f_X3_membersAhead_L4] at hf; cases hf
  | succ n ih =>
    intro x2 x3 r hf
    rw [f_X3_membersAhead_L4] at hf
    refine ev_iload_n i_X3_membersAhead_4 rfl ?_
    refine ev_iload_n i_X3_membersAhead_5 rfl ?_
    refine ev_icmp_ge (tg := 32) i_X3_membersAhead_6 (by decide) (fun c6 => ?_) (fun c6 => ?_)
    · rw [if_pos c6] at hf
      refine ev_sub (lc2 := [none, none, some (.int x2), none]) ⟨Or.inl rfl, Or.inl rfl, Or.inr rfl, Or.inl rfl, trivial⟩ ?_
      exact hk32 x2 _ hf
    · rw [if_neg c6] at hf
      refine ev_iload_n i_X3_membersAhead_9 rfl ?_
      refine ev_aload_n i_X3_membersAhead_10 rfl ?_
      obtain ⟨v11, e11, hf⟩ := ob hf
      refine ev_gI i_X3_membersAhead_11 fl_X3_15 rfl e11 ?_
      refine ev_icmp_ge (tg := 32) i_X3_membersAhead_14 (by decide) (fun c14 => ?_) (fun c14 => ?_)
      · rw [if_pos c14] at hf
        refine ev_sub (lc2 := [none, none, some (.int x2), none]) ⟨Or.inl rfl, Or.inl rfl, Or.inr rfl, Or.inl rfl, trivial⟩ ?_
        exact hk32 x2 _ hf
      · rw [if_neg c14] at hf
        refine ev_iload_n i_X3_membersAhead_17 rfl ?_
        refine ev_aload_n i_X3_membersAhead_18 rfl ?_
        obtain ⟨b19, e19, hf⟩ := ob hf
        refine ev_gR i_X3_membersAhead_19 fl_X3_9 rfl e19 ?_
        refine ev_iload_n i_X3_membersAhead_22 rfl ?_
        obtain ⟨v23, e23, hf⟩ := ob hf
        refine ev_aI i_X3_membersAhead_23 e23 ?_
        refine ev_ior i_X3_membersAhead_24 ?_
        refine ev_istore_n i_X3_membersAhead_25 (by decide) ?_
        refine ev_iinc (y := (x3 + (1 : Int32))) i_X3_membersAhead_26 rfl rfl (by decide) ?_
        refine ev_goto (tg := 4) i_X3_membersAhead_29 (by decide) ?_
        exact ih (x2 ||| v23) (x3 + (1 : Int32)) _ hf
def f_X3_membersAhead (h : MH) (a0 : Nat) (x1 : Int32) : Option Int32 := gK h a0 3 (f_X3_membersAhead_L4 (fun x2e32 => some x2e32) h a0 x1 fuel (0 : Int32) (0 : Int32))
set_option maxRecDepth 20000 in
theorem e_X3_membersAhead {G : GG} {h : MH} {a0 : Nat} {x1 : Int32} {r : Int32} (hf : f_X3_membersAhead h a0 x1 = some r) : Ev G 0 M_X3_membersAhead 0 (ent M_X3_membersAhead [.ref a0, .int x1]) [] h (some (.int r)) h := by
  unfold f_X3_membersAhead at hf
  show Ev G 0 M_X3_membersAhead 0 [some (.ref a0), some (.int x1), none, none] [] h (some (.int r)) h
  obtain ⟨-, hf⟩ := gK_of hf
  refine ev_iconst i_X3_membersAhead_0 lt_i_0 ?_
  refine ev_istore_n i_X3_membersAhead_1 (by decide) ?_
  refine ev_iconst i_X3_membersAhead_2 lt_i_0 ?_
  refine ev_istore_n i_X3_membersAhead_3 (by decide) ?_
  exact l_X3_membersAhead_4 (fun x2e32 r hf => by
    refine ev_iload_n i_X3_membersAhead_32 rfl ?_
    cases hf
    exact ev_iiret i_X3_membersAhead_33 rfl) fuel (0 : Int32) (0 : Int32) _ hf
def f_X3_members (h : MH) (a0 : Nat) : Option Int32 := gK h a0 3 ((gI h a0 3 1).bind fun v2 => (f_X3_membersAhead h a0 v2).bind fun v5 => some v5)
set_option maxRecDepth 20000 in
theorem e_X3_members {G : GG} {h : MH} {a0 : Nat} {r : Int32} (hf : f_X3_members h a0 = some r) : Ev G 1 M_X3_members 0 (ent M_X3_members [.ref a0]) [] h (some (.int r)) h := by
  unfold f_X3_members at hf
  show Ev G 1 M_X3_members 0 [some (.ref a0)] [] h (some (.int r)) h
  obtain ⟨-, hf⟩ := gK_of hf
  refine ev_aload_n i_X3_members_0 rfl ?_
  refine ev_aload_n i_X3_members_1 rfl ?_
  obtain ⟨v2, e2, hf⟩ := ob hf
  refine ev_gI i_X3_members_2 fl_X3_15 rfl e2 ?_
  obtain ⟨v5, e5, hf⟩ := ob hf
  refine ev_cV_i i_X3_members_5 lk_X3_members_23 [.int v2] rfl rfl (by decide) (gK_of e5).1.1 (gK_of e5).1.2 (Nat.le_of_ble_eq_true rfl) (by decide) (e_X3_membersAhead e5) ?_
  cases hf
  exact ev_iiret i_X3_members_8 rfl
def f_X5_put (h : MH) (a0 : Nat) (x1 : Int32) (x2 : Int32) (x3 : Int32) (x4 : Int32) (x5 : Int32) : Option MH := gK h a0 5 ((gR h a0 5 0).bind fun b1 => (sI h b1 x1 x2).bind fun h6 => (gR h6 a0 5 1).bind fun b8 => (sI h6 b8 x1 x3).bind fun h13 => (gR h13 a0 5 2).bind fun b15 => (sI h13 b15 x1 x4).bind fun h21 => (gR h21 a0 5 3).bind fun b23 => (sI h21 b23 x1 x5).bind fun h29 => some h29)
set_option maxRecDepth 20000 in
theorem e_X5_put {G : GG} {h : MH} {a0 : Nat} {x1 : Int32} {x2 : Int32} {x3 : Int32} {x4 : Int32} {x5 : Int32} {r : MH} (hf : f_X5_put h a0 x1 x2 x3 x4 x5 = some r) : Ev G 0 M_X5_put 0 (ent M_X5_put [.ref a0, .int x1, .int x2, .int x3, .int x4, .int x5]) [] h none r := by
  unfold f_X5_put at hf
  show Ev G 0 M_X5_put 0 [some (.ref a0), some (.int x1), some (.int x2), some (.int x3), some (.int x4), some (.int x5)] [] h none r
  obtain ⟨-, hf⟩ := gK_of hf
  refine ev_aload_n i_X5_put_0 rfl ?_
  obtain ⟨b1, e1, hf⟩ := ob hf
  refine ev_gR i_X5_put_1 fl_X5_9 rfl e1 ?_
  refine ev_iload_n i_X5_put_4 rfl ?_
  refine ev_iload_n i_X5_put_5 rfl ?_
  obtain ⟨h6, e6, hf⟩ := ob hf
  refine ev_sI i_X5_put_6 e6 ?_
  refine ev_aload_n i_X5_put_7 rfl ?_
  obtain ⟨b8, e8, hf⟩ := ob hf
  refine ev_gR i_X5_put_8 fl_X5_15 rfl e8 ?_
  refine ev_iload_n i_X5_put_11 rfl ?_
  refine ev_iload_n i_X5_put_12 rfl ?_
  obtain ⟨h13, e13, hf⟩ := ob hf
  refine ev_sI i_X5_put_13 e13 ?_
  refine ev_aload_n i_X5_put_14 rfl ?_
  obtain ⟨b15, e15, hf⟩ := ob hf
  refine ev_gR i_X5_put_15 fl_X5_18 rfl e15 ?_
  refine ev_iload_n i_X5_put_18 rfl ?_
  refine ev_iload i_X5_put_19 rfl ?_
  obtain ⟨h21, e21, hf⟩ := ob hf
  refine ev_sI i_X5_put_21 e21 ?_
  refine ev_aload_n i_X5_put_22 rfl ?_
  obtain ⟨b23, e23, hf⟩ := ob hf
  refine ev_gR i_X5_put_23 fl_X5_21 rfl e23 ?_
  refine ev_iload_n i_X5_put_26 rfl ?_
  refine ev_iload i_X5_put_27 rfl ?_
  obtain ⟨h29, e29, hf⟩ := ob hf
  refine ev_sI i_X5_put_29 e29 ?_
  cases hf
  exact ev_vret i_X5_put_30 rfl
def f_X5_add (h : MH) (a0 : Nat) (x1 : Int32) (x2 : Int32) (x3 : Int32) (x4 : Int32) : Option MH := gK h a0 5 ((gI h a0 5 5).bind fun v1 => (if v1 < (6 : Int32) then ((gI h a0 5 5).bind fun v12 => (f_X5_put h a0 v12 x1 x2 x3 x4).bind fun h20 => (gI h20 a0 5 5).bind fun v25 => (pI h20 a0 5 5 (v25 + (1 : Int32))).bind fun h30 => (f_X5_findActs h30 a0).bind fun h34 => some h34) else (some h)))
set_option maxRecDepth 20000 in
theorem e_X5_add {G : GG} {h : MH} {a0 : Nat} {x1 : Int32} {x2 : Int32} {x3 : Int32} {x4 : Int32} {r : MH} (hf : f_X5_add h a0 x1 x2 x3 x4 = some r) : Ev G 2 M_X5_add 0 (ent M_X5_add [.ref a0, .int x1, .int x2, .int x3, .int x4]) [] h none r := by
  unfold f_X5_add at hf
  show Ev G 2 M_X5_add 0 [some (.ref a0), some (.int x1), some (.int x2), some (.int x3), some (.int x4)] [] h none r
  obtain ⟨-, hf⟩ := gK_of hf
  refine ev_aload_n i_X5_add_0 rfl ?_
  obtain ⟨v1, e1, hf⟩ := ob hf
  refine ev_gI i_X5_add_1 fl_X5_33 rfl e1 ?_
  refine ev_bipush i_X5_add_4 lt_b_6 ?_
  refine ev_icmp_lt (tg := 10) i_X5_add_6 (by decide) (fun c6 => ?_) (fun c6 => ?_)
  · rw [if_pos c6] at hf
    refine ev_aload_n i_X5_add_10 rfl ?_
    refine ev_aload_n i_X5_add_11 rfl ?_
    obtain ⟨v12, e12, hf⟩ := ob hf
    refine ev_gI i_X5_add_12 fl_X5_33 rfl e12 ?_
    refine ev_iload_n i_X5_add_15 rfl ?_
    refine ev_iload_n i_X5_add_16 rfl ?_
    refine ev_iload_n i_X5_add_17 rfl ?_
    refine ev_iload i_X5_add_18 rfl ?_
    obtain ⟨h20, e20, hf⟩ := ob hf
    refine ev_cV_v i_X5_add_20 lk_X5_add_40 [.int v12, .int x1, .int x2, .int x3, .int x4] rfl rfl (by decide) (gK_of e20).1.1 (gK_of e20).1.2 (Nat.le_of_ble_eq_true rfl) (by decide) (e_X5_put e20) ?_
    refine ev_aload_n i_X5_add_23 rfl ?_
    refine ev_dup i_X5_add_24 ?_
    obtain ⟨v25, e25, hf⟩ := ob hf
    refine ev_gI i_X5_add_25 fl_X5_33 rfl e25 ?_
    refine ev_iconst i_X5_add_28 lt_i_1 ?_
    refine ev_iadd i_X5_add_29 ?_
    obtain ⟨h30, e30, hf⟩ := ob hf
    refine ev_pI i_X5_add_30 fp_X5_add_33 rfl e30 ?_
    refine ev_aload_n i_X5_add_33 rfl ?_
    obtain ⟨h34, e34, hf⟩ := ob hf
    refine ev_cV_v i_X5_add_34 lk_X5_add_37 [] rfl rfl (by decide) (gK_of e34).1.1 (gK_of e34).1.2 (Nat.le_of_ble_eq_true rfl) (by decide) (e_X5_findActs e34) ?_
    cases hf
    exact ev_vret i_X5_add_37 rfl
  · rw [if_neg c6] at hf
    cases hf
    exact ev_vret i_X5_add_9 rfl
def f_X5_remove_L15 (k68 : MH → Option MH) (a0 : Nat) : Nat → MH → Int32 → Option MH
  | 0, _, _ => none
  | n + 1, h, x2 => (gI h a0 5 5).bind fun v19 => (if v19 ≤ (x2 + (1 : Int32)) then (k68 h) else ((gR h a0 5 0).bind fun b28 => (aI h b28 (x2 + (1 : Int32))).bind fun v34 => (gR h a0 5 1).bind fun b36 => (aI h b36 (x2 + (1 : Int32))).bind fun v42 => (gR h a0 5 2).bind fun b44 => (aI h b44 (x2 + (1 : Int32))).bind fun v50 => (gR h a0 5 3).bind fun b52 => (aI h b52 (x2 + (1 : Int32))).bind fun v58 => (f_X5_put h a0 x2 v34 v42 v50 v58).bind fun h59 => f_X5_remove_L15 k68 a0 n h59 (x2 + (1 : Int32))))
set_option maxRecDepth 20000 in
theorem l_X5_remove_15 {G : GG} {k68 : MH → Option MH} {a0 : Nat} (hk68 : ∀ (hz : MH) (r : MH), k68 hz = some r → Ev G 2 M_X5_remove 68 [some (.ref a0), none, none] [] hz none r) : ∀ (n : Nat) (h : MH) (x2 : Int32) (r : MH), f_X5_remove_L15 k68 a0 n h x2 = some r → Ev G 2 M_X5_remove 15 [some (.ref a0), none, some (.int x2)] [] h none r := by
  intro n
  induction n with
  | zero => intro h x2 r hf; rw [f_X5_remove_L15] at hf; cases hf
  | succ n ih =>
    intro h x2 r hf
    rw [f_X5_remove_L15] at hf
    refine ev_iload_n i_X5_remove_15 rfl ?_
    refine ev_iconst i_X5_remove_16 lt_i_1 ?_
    refine ev_iadd i_X5_remove_17 ?_
    refine ev_aload_n i_X5_remove_18 rfl ?_
    obtain ⟨v19, e19, hf⟩ := ob hf
    refine ev_gI i_X5_remove_19 fl_X5_33 rfl e19 ?_
    refine ev_icmp_ge (tg := 68) i_X5_remove_22 (by decide) (fun c22 => ?_) (fun c22 => ?_)
    · rw [if_pos c22] at hf
      refine ev_sub (lc2 := [some (.ref a0), none, none]) ⟨Or.inr rfl, Or.inr rfl, Or.inl rfl, trivial⟩ ?_
      exact hk68 h _ hf
    · rw [if_neg c22] at hf
      refine ev_aload_n i_X5_remove_25 rfl ?_
      refine ev_iload_n i_X5_remove_26 rfl ?_
      refine ev_aload_n i_X5_remove_27 rfl ?_
      obtain ⟨b28, e28, hf⟩ := ob hf
      refine ev_gR i_X5_remove_28 fl_X5_9 rfl e28 ?_
      refine ev_iload_n i_X5_remove_31 rfl ?_
      refine ev_iconst i_X5_remove_32 lt_i_1 ?_
      refine ev_iadd i_X5_remove_33 ?_
      obtain ⟨v34, e34, hf⟩ := ob hf
      refine ev_aI i_X5_remove_34 e34 ?_
      refine ev_aload_n i_X5_remove_35 rfl ?_
      obtain ⟨b36, e36, hf⟩ := ob hf
      refine ev_gR i_X5_remove_36 fl_X5_15 rfl e36 ?_
      refine ev_iload_n i_X5_remove_39 rfl ?_
      refine ev_iconst i_X5_remove_40 lt_i_1 ?_
      refine ev_iadd i_X5_remove_41 ?_
      obtain ⟨v42, e42, hf⟩ := ob hf
      refine ev_aI i_X5_remove_42 e42 ?_
      refine ev_aload_n i_X5_remove_43 rfl ?_
      obtain ⟨b44, e44, hf⟩ := ob hf
      refine ev_gR i_X5_remove_44 fl_X5_18 rfl e44 ?_
      refine ev_iload_n i_X5_remove_47 rfl ?_
      refine ev_iconst i_X5_remove_48 lt_i_1 ?_
      refine ev_iadd i_X5_remove_49 ?_
      obtain ⟨v50, e50, hf⟩ := ob hf
      refine ev_aI i_X5_remove_50 e50 ?_
      refine ev_aload_n i_X5_remove_51 rfl ?_
      obtain ⟨b52, e52, hf⟩ := ob hf
      refine ev_gR i_X5_remove_52 fl_X5_21 rfl e52 ?_
      refine ev_iload_n i_X5_remove_55 rfl ?_
      refine ev_iconst i_X5_remove_56 lt_i_1 ?_
      refine ev_iadd i_X5_remove_57 ?_
      obtain ⟨v58, e58, hf⟩ := ob hf
      refine ev_aI i_X5_remove_58 e58 ?_
      obtain ⟨h59, e59, hf⟩ := ob hf
      refine ev_cV_v i_X5_remove_59 lk_X5_remove_40 [.int x2, .int v34, .int v42, .int v50, .int v58] rfl rfl (by decide) (gK_of e59).1.1 (gK_of e59).1.2 (Nat.le_of_ble_eq_true rfl) (by decide) (e_X5_put e59) ?_
      refine ev_iinc (y := (x2 + (1 : Int32))) i_X5_remove_62 rfl rfl (by decide) ?_
      refine ev_goto (tg := 15) i_X5_remove_65 (by decide) ?_
      exact ih h59 (x2 + (1 : Int32)) _ hf
def f_X5_remove (h : MH) (a0 : Nat) (x1 : Int32) : Option MH := gK h a0 5 ((if x1 < 0 then (some h) else ((gI h a0 5 5).bind fun v6 => (if x1 < v6 then (f_X5_remove_L15 (fun he68 => (gI he68 a0 5 5).bind fun v70 => (pI he68 a0 5 5 (v70 - (1 : Int32))).bind fun h75 => (f_X5_findActs h75 a0).bind fun h79 => some h79) a0 fuel h x1) else (some h)))))
set_option maxRecDepth 20000 in
theorem e_X5_remove {G : GG} {h : MH} {a0 : Nat} {x1 : Int32} {r : MH} (hf : f_X5_remove h a0 x1 = some r) : Ev G 2 M_X5_remove 0 (ent M_X5_remove [.ref a0, .int x1]) [] h none r := by
  unfold f_X5_remove at hf
  show Ev G 2 M_X5_remove 0 [some (.ref a0), some (.int x1), none] [] h none r
  obtain ⟨-, hf⟩ := gK_of hf
  refine ev_iload_n i_X5_remove_0 rfl ?_
  refine ev_if_lt (tg := 12) i_X5_remove_1 (by decide) (fun c1 => ?_) (fun c1 => ?_)
  · rw [if_pos c1] at hf
    cases hf
    exact ev_vret i_X5_remove_12 rfl
  · rw [if_neg c1] at hf
    refine ev_iload_n i_X5_remove_4 rfl ?_
    refine ev_aload_n i_X5_remove_5 rfl ?_
    obtain ⟨v6, e6, hf⟩ := ob hf
    refine ev_gI i_X5_remove_6 fl_X5_33 rfl e6 ?_
    refine ev_icmp_lt (tg := 13) i_X5_remove_9 (by decide) (fun c9 => ?_) (fun c9 => ?_)
    · rw [if_pos c9] at hf
      refine ev_iload_n i_X5_remove_13 rfl ?_
      refine ev_istore_n i_X5_remove_14 (by decide) ?_
      refine ev_sub (lc2 := [some (.ref a0), none, some (.int x1)]) ⟨Or.inr rfl, Or.inl rfl, Or.inr rfl, trivial⟩ ?_
      exact l_X5_remove_15 (fun he68 r hf => by
        refine ev_aload_n i_X5_remove_68 rfl ?_
        refine ev_dup i_X5_remove_69 ?_
        obtain ⟨v70, e70, hf⟩ := ob hf
        refine ev_gI i_X5_remove_70 fl_X5_33 rfl e70 ?_
        refine ev_iconst i_X5_remove_73 lt_i_1 ?_
        refine ev_isub i_X5_remove_74 ?_
        obtain ⟨h75, e75, hf⟩ := ob hf
        refine ev_pI i_X5_remove_75 fp_X5_remove_33 rfl e75 ?_
        refine ev_aload_n i_X5_remove_78 rfl ?_
        obtain ⟨h79, e79, hf⟩ := ob hf
        refine ev_cV_v i_X5_remove_79 lk_X5_remove_37 [] rfl rfl (by decide) (gK_of e79).1.1 (gK_of e79).1.2 (Nat.le_of_ble_eq_true rfl) (by decide) (e_X5_findActs e79) ?_
        cases hf
        exact ev_vret i_X5_remove_82 rfl) fuel h x1 _ hf
    · rw [if_neg c9] at hf
      cases hf
      exact ev_vret i_X5_remove_12 rfl
def f_X5_becomeLike_L2 (k45 : MH → Option MH) (a0 : Nat) (a1 : Nat) : Nat → MH → Int32 → Option MH
  | 0, _, _ => none
  | n + 1, h, x2 => (gI h a1 5 5).bind fun v4 => (if v4 ≤ x2 then (k45 h) else ((gR h a1 5 0).bind fun b13 => (aI h b13 x2).bind fun v17 => (gR h a1 5 1).bind fun b19 => (aI h b19 x2).bind fun v23 => (gR h a1 5 2).bind fun b25 => (aI h b25 x2).bind fun v29 => (gR h a1 5 3).bind fun b31 => (aI h b31 x2).bind fun v35 => (f_X5_put h a0 x2 v17 v23 v29 v35).bind fun h36 => f_X5_becomeLike_L2 k45 a0 a1 n h36 (x2 + (1 : Int32))))
set_option maxRecDepth 20000 in
theorem l_X5_becomeLike_2 {G : GG} {k45 : MH → Option MH} {a0 : Nat} {a1 : Nat} (hk45 : ∀ (hz : MH) (r : MH), k45 hz = some r → Ev G 2 M_X5_becomeLike 45 [some (.ref a0), some (.ref a1), none] [] hz none r) : ∀ (n : Nat) (h : MH) (x2 : Int32) (r : MH), f_X5_becomeLike_L2 k45 a0 a1 n h x2 = some r → Ev G 2 M_X5_becomeLike 2 [some (.ref a0), some (.ref a1), some (.int x2)] [] h none r := by
  intro n
  induction n with
  | zero => intro h x2 r hf; rw [f_X5_becomeLike_L2] at hf; cases hf
  | succ n ih =>
    intro h x2 r hf
    rw [f_X5_becomeLike_L2] at hf
    refine ev_iload_n i_X5_becomeLike_2 rfl ?_
    refine ev_aload_n i_X5_becomeLike_3 rfl ?_
    obtain ⟨v4, e4, hf⟩ := ob hf
    refine ev_gI i_X5_becomeLike_4 fl_X5_33 rfl e4 ?_
    refine ev_icmp_ge (tg := 45) i_X5_becomeLike_7 (by decide) (fun c7 => ?_) (fun c7 => ?_)
    · rw [if_pos c7] at hf
      refine ev_sub (lc2 := [some (.ref a0), some (.ref a1), none]) ⟨Or.inr rfl, Or.inr rfl, Or.inl rfl, trivial⟩ ?_
      exact hk45 h _ hf
    · rw [if_neg c7] at hf
      refine ev_aload_n i_X5_becomeLike_10 rfl ?_
      refine ev_iload_n i_X5_becomeLike_11 rfl ?_
      refine ev_aload_n i_X5_becomeLike_12 rfl ?_
      obtain ⟨b13, e13, hf⟩ := ob hf
      refine ev_gR i_X5_becomeLike_13 fl_X5_9 rfl e13 ?_
      refine ev_iload_n i_X5_becomeLike_16 rfl ?_
      obtain ⟨v17, e17, hf⟩ := ob hf
      refine ev_aI i_X5_becomeLike_17 e17 ?_
      refine ev_aload_n i_X5_becomeLike_18 rfl ?_
      obtain ⟨b19, e19, hf⟩ := ob hf
      refine ev_gR i_X5_becomeLike_19 fl_X5_15 rfl e19 ?_
      refine ev_iload_n i_X5_becomeLike_22 rfl ?_
      obtain ⟨v23, e23, hf⟩ := ob hf
      refine ev_aI i_X5_becomeLike_23 e23 ?_
      refine ev_aload_n i_X5_becomeLike_24 rfl ?_
      obtain ⟨b25, e25, hf⟩ := ob hf
      refine ev_gR i_X5_becomeLike_25 fl_X5_18 rfl e25 ?_
      refine ev_iload_n i_X5_becomeLike_28 rfl ?_
      obtain ⟨v29, e29, hf⟩ := ob hf
      refine ev_aI i_X5_becomeLike_29 e29 ?_
      refine ev_aload_n i_X5_becomeLike_30 rfl ?_
      obtain ⟨b31, e31, hf⟩ := ob hf
      refine ev_gR i_X5_becomeLike_31 fl_X5_21 rfl e31 ?_
      refine ev_iload_n i_X5_becomeLike_34 rfl ?_
      obtain ⟨v35, e35, hf⟩ := ob hf
      refine ev_aI i_X5_becomeLike_35 e35 ?_
      obtain ⟨h36, e36, hf⟩ := ob hf
      refine ev_cV_v i_X5_becomeLike_36 lk_X5_becomeLike_40 [.int x2, .int v17, .int v23, .int v29, .int v35] rfl rfl (by decide) (gK_of e36).1.1 (gK_of e36).1.2 (Nat.le_of_ble_eq_true rfl) (by decide) (e_X5_put e36) ?_
      refine ev_iinc (y := (x2 + (1 : Int32))) i_X5_becomeLike_39 rfl rfl (by decide) ?_
      refine ev_goto (tg := 2) i_X5_becomeLike_42 (by decide) ?_
      exact ih h36 (x2 + (1 : Int32)) _ hf
def f_X5_becomeLike (h : MH) (a0 : Nat) (a1 : Nat) : Option MH := gK h a0 5 (f_X5_becomeLike_L2 (fun he45 => (gI he45 a1 5 5).bind fun v47 => (pI he45 a0 5 5 v47).bind fun h50 => (f_X5_findActs h50 a0).bind fun h54 => some h54) a0 a1 fuel h (0 : Int32))
set_option maxRecDepth 20000 in
theorem e_X5_becomeLike {G : GG} {h : MH} {a0 : Nat} {a1 : Nat} {r : MH} (hf : f_X5_becomeLike h a0 a1 = some r) : Ev G 2 M_X5_becomeLike 0 (ent M_X5_becomeLike [.ref a0, .ref a1]) [] h none r := by
  unfold f_X5_becomeLike at hf
  show Ev G 2 M_X5_becomeLike 0 [some (.ref a0), some (.ref a1), none] [] h none r
  obtain ⟨-, hf⟩ := gK_of hf
  refine ev_iconst i_X5_becomeLike_0 lt_i_0 ?_
  refine ev_istore_n i_X5_becomeLike_1 (by decide) ?_
  exact l_X5_becomeLike_2 (fun he45 r hf => by
    refine ev_aload_n i_X5_becomeLike_45 rfl ?_
    refine ev_aload_n i_X5_becomeLike_46 rfl ?_
    obtain ⟨v47, e47, hf⟩ := ob hf
    refine ev_gI i_X5_becomeLike_47 fl_X5_33 rfl e47 ?_
    obtain ⟨h50, e50, hf⟩ := ob hf
    refine ev_pI i_X5_becomeLike_50 fp_X5_becomeLike_33 rfl e50 ?_
    refine ev_aload_n i_X5_becomeLike_53 rfl ?_
    obtain ⟨h54, e54, hf⟩ := ob hf
    refine ev_cV_v i_X5_becomeLike_54 lk_X5_becomeLike_37 [] rfl rfl (by decide) (gK_of e54).1.1 (gK_of e54).1.2 (Nat.le_of_ble_eq_true rfl) (by decide) (e_X5_findActs e54) ?_
    cases hf
    exact ev_vret i_X5_becomeLike_57 rfl) fuel h (0 : Int32) _ hf
def f_J6_bitCount_0f7a4 (h : MH) (x0 : Int32) : Option Int32 := some ((((((((x0 - (((x0).toUInt32 >>> (((1 : Int32)).toUInt32 &&& Int32.toUInt32 31)).toInt32 &&& (1431655765 : Int32))) &&& (858993459 : Int32)) + ((((x0 - (((x0).toUInt32 >>> (((1 : Int32)).toUInt32 &&& Int32.toUInt32 31)).toInt32 &&& (1431655765 : Int32)))).toUInt32 >>> (((2 : Int32)).toUInt32 &&& Int32.toUInt32 31)).toInt32 &&& (858993459 : Int32))) + (((((x0 - (((x0).toUInt32 >>> (((1 : Int32)).toUInt32 &&& Int32.toUInt32 31)).toInt32 &&& (1431655765 : Int32))) &&& (858993459 : Int32)) + ((((x0 - (((x0).toUInt32 >>> (((1 : Int32)).toUInt32 &&& Int32.toUInt32 31)).toInt32 &&& (1431655765 : Int32)))).toUInt32 >>> (((2 : Int32)).toUInt32 &&& Int32.toUInt32 31)).toInt32 &&& (858993459 : Int32)))).toUInt32 >>> (((4 : Int32)).toUInt32 &&& Int32.toUInt32 31)).toInt32) &&& (252645135 : Int32)) + (((((((x0 - (((x0).toUInt32 >>> (((1 : Int32)).toUInt32 &&& Int32.toUInt32 31)).toInt32 &&& (1431655765 : Int32))) &&& (858993459 : Int32)) + ((((x0 - (((x0).toUInt32 >>> (((1 : Int32)).toUInt32 &&& Int32.toUInt32 31)).toInt32 &&& (1431655765 : Int32)))).toUInt32 >>> (((2 : Int32)).toUInt32 &&& Int32.toUInt32 31)).toInt32 &&& (858993459 : Int32))) + (((((x0 - (((x0).toUInt32 >>> (((1 : Int32)).toUInt32 &&& Int32.toUInt32 31)).toInt32 &&& (1431655765 : Int32))) &&& (858993459 : Int32)) + ((((x0 - (((x0).toUInt32 >>> (((1 : Int32)).toUInt32 &&& Int32.toUInt32 31)).toInt32 &&& (1431655765 : Int32)))).toUInt32 >>> (((2 : Int32)).toUInt32 &&& Int32.toUInt32 31)).toInt32 &&& (858993459 : Int32)))).toUInt32 >>> (((4 : Int32)).toUInt32 &&& Int32.toUInt32 31)).toInt32) &&& (252645135 : Int32))).toUInt32 >>> (((8 : Int32)).toUInt32 &&& Int32.toUInt32 31)).toInt32) + ((((((((x0 - (((x0).toUInt32 >>> (((1 : Int32)).toUInt32 &&& Int32.toUInt32 31)).toInt32 &&& (1431655765 : Int32))) &&& (858993459 : Int32)) + ((((x0 - (((x0).toUInt32 >>> (((1 : Int32)).toUInt32 &&& Int32.toUInt32 31)).toInt32 &&& (1431655765 : Int32)))).toUInt32 >>> (((2 : Int32)).toUInt32 &&& Int32.toUInt32 31)).toInt32 &&& (858993459 : Int32))) + (((((x0 - (((x0).toUInt32 >>> (((1 : Int32)).toUInt32 &&& Int32.toUInt32 31)).toInt32 &&& (1431655765 : Int32))) &&& (858993459 : Int32)) + ((((x0 - (((x0).toUInt32 >>> (((1 : Int32)).toUInt32 &&& Int32.toUInt32 31)).toInt32 &&& (1431655765 : Int32)))).toUInt32 >>> (((2 : Int32)).toUInt32 &&& Int32.toUInt32 31)).toInt32 &&& (858993459 : Int32)))).toUInt32 >>> (((4 : Int32)).toUInt32 &&& Int32.toUInt32 31)).toInt32) &&& (252645135 : Int32)) + (((((((x0 - (((x0).toUInt32 >>> (((1 : Int32)).toUInt32 &&& Int32.toUInt32 31)).toInt32 &&& (1431655765 : Int32))) &&& (858993459 : Int32)) + ((((x0 - (((x0).toUInt32 >>> (((1 : Int32)).toUInt32 &&& Int32.toUInt32 31)).toInt32 &&& (1431655765 : Int32)))).toUInt32 >>> (((2 : Int32)).toUInt32 &&& Int32.toUInt32 31)).toInt32 &&& (858993459 : Int32))) + (((((x0 - (((x0).toUInt32 >>> (((1 : Int32)).toUInt32 &&& Int32.toUInt32 31)).toInt32 &&& (1431655765 : Int32))) &&& (858993459 : Int32)) + ((((x0 - (((x0).toUInt32 >>> (((1 : Int32)).toUInt32 &&& Int32.toUInt32 31)).toInt32 &&& (1431655765 : Int32)))).toUInt32 >>> (((2 : Int32)).toUInt32 &&& Int32.toUInt32 31)).toInt32 &&& (858993459 : Int32)))).toUInt32 >>> (((4 : Int32)).toUInt32 &&& Int32.toUInt32 31)).toInt32) &&& (252645135 : Int32))).toUInt32 >>> (((8 : Int32)).toUInt32 &&& Int32.toUInt32 31)).toInt32)).toUInt32 >>> (((16 : Int32)).toUInt32 &&& Int32.toUInt32 31)).toInt32) &&& (63 : Int32))
set_option maxRecDepth 20000 in
theorem e_J6_bitCount_0f7a4 {G : GG} {h : MH} {x0 : Int32} {r : Int32} (hf : f_J6_bitCount_0f7a4 h x0 = some r) : Ev G 0 M_J6_bitCount_0f7a4 0 (ent M_J6_bitCount_0f7a4 [.int x0]) [] h (some (.int r)) h := by
  unfold f_J6_bitCount_0f7a4 at hf
  show Ev G 0 M_J6_bitCount_0f7a4 0 [some (.int x0)] [] h (some (.int r)) h
  refine ev_iload_n i_J6_bitCount_0f7a4_0 rfl ?_
  refine ev_iload_n i_J6_bitCount_0f7a4_1 rfl ?_
  refine ev_iconst i_J6_bitCount_0f7a4_2 lt_i_1 ?_
  refine ev_iushr i_J6_bitCount_0f7a4_3 ?_
  refine ev_ldcw i_J6_bitCount_0f7a4_4 cn_J6_265 ?_
  refine ev_iand i_J6_bitCount_0f7a4_7 ?_
  refine ev_isub i_J6_bitCount_0f7a4_8 ?_
  refine ev_istore_n i_J6_bitCount_0f7a4_9 (by decide) ?_
  refine ev_iload_n i_J6_bitCount_0f7a4_10 rfl ?_
  refine ev_ldcw i_J6_bitCount_0f7a4_11 cn_J6_266 ?_
  refine ev_iand i_J6_bitCount_0f7a4_14 ?_
  refine ev_iload_n i_J6_bitCount_0f7a4_15 rfl ?_
  refine ev_iconst i_J6_bitCount_0f7a4_16 lt_i_2 ?_
  refine ev_iushr i_J6_bitCount_0f7a4_17 ?_
  refine ev_ldcw i_J6_bitCount_0f7a4_18 cn_J6_266 ?_
  refine ev_iand i_J6_bitCount_0f7a4_21 ?_
  refine ev_iadd i_J6_bitCount_0f7a4_22 ?_
  refine ev_istore_n i_J6_bitCount_0f7a4_23 (by decide) ?_
  refine ev_iload_n i_J6_bitCount_0f7a4_24 rfl ?_
  refine ev_iload_n i_J6_bitCount_0f7a4_25 rfl ?_
  refine ev_iconst i_J6_bitCount_0f7a4_26 lt_i_4 ?_
  refine ev_iushr i_J6_bitCount_0f7a4_27 ?_
  refine ev_iadd i_J6_bitCount_0f7a4_28 ?_
  refine ev_ldcw i_J6_bitCount_0f7a4_29 cn_J6_267 ?_
  refine ev_iand i_J6_bitCount_0f7a4_32 ?_
  refine ev_istore_n i_J6_bitCount_0f7a4_33 (by decide) ?_
  refine ev_iload_n i_J6_bitCount_0f7a4_34 rfl ?_
  refine ev_iload_n i_J6_bitCount_0f7a4_35 rfl ?_
  refine ev_bipush i_J6_bitCount_0f7a4_36 lt_b_8 ?_
  refine ev_iushr i_J6_bitCount_0f7a4_38 ?_
  refine ev_iadd i_J6_bitCount_0f7a4_39 ?_
  refine ev_istore_n i_J6_bitCount_0f7a4_40 (by decide) ?_
  refine ev_iload_n i_J6_bitCount_0f7a4_41 rfl ?_
  refine ev_iload_n i_J6_bitCount_0f7a4_42 rfl ?_
  refine ev_bipush i_J6_bitCount_0f7a4_43 lt_b_16 ?_
  refine ev_iushr i_J6_bitCount_0f7a4_45 ?_
  refine ev_iadd i_J6_bitCount_0f7a4_46 ?_
  refine ev_istore_n i_J6_bitCount_0f7a4_47 (by decide) ?_
  refine ev_iload_n i_J6_bitCount_0f7a4_48 rfl ?_
  refine ev_bipush i_J6_bitCount_0f7a4_49 lt_b_63 ?_
  refine ev_iand i_J6_bitCount_0f7a4_51 ?_
  cases hf
  exact ev_iiret i_J6_bitCount_0f7a4_52 rfl

/-! ===== methods as functions ===== -/
def f_X10_holds (h : MH) (a0 : Nat) (x1 : Int32) (x2 : Int32) : Option (Int32 × MH) := gK h a0 10 ((gI h a0 10 2).bind fun v3 => (f_X10_isIn h x1 (0 : Int32) (v3 - (1 : Int32))).bind fun v8 => (if v8 = 0 then (some ((-1 : Int32), h)) else ((f_X10_isMixture h a0 x2).bind fun v16 => (if v16 = 0 then (some ((-1 : Int32), h)) else ((f_X10_breaks h a0 x1 x2).bind fun r29 => (if r29.1 = (-1 : Int32) then (some ((1 : Int32), r29.2)) else (some ((0 : Int32), r29.2))))))))
set_option maxRecDepth 20000 in
theorem e_X10_holds {G : GG} {h : MH} {a0 : Nat} {x1 : Int32} {x2 : Int32} {r : (Int32 × MH)} (hf : f_X10_holds h a0 x1 x2 = some r) : Ev G 7 M_X10_holds 0 (ent M_X10_holds [.ref a0, .int x1, .int x2]) [] h (some (.int r.1)) r.2 := by
  unfold f_X10_holds at hf
  show Ev G 7 M_X10_holds 0 [some (.ref a0), some (.int x1), some (.int x2)] [] h (some (.int r.1)) r.2
  obtain ⟨-, hf⟩ := gK_of hf
  refine ev_iload_n i_X10_holds_0 rfl ?_
  refine ev_iconst i_X10_holds_1 lt_i_0 ?_
  refine ev_aload_n i_X10_holds_2 rfl ?_
  obtain ⟨v3, e3, hf⟩ := ob hf
  refine ev_gI i_X10_holds_3 fl_X10_88 rfl e3 ?_
  refine ev_iconst i_X10_holds_6 lt_i_1 ?_
  refine ev_isub i_X10_holds_7 ?_
  obtain ⟨v8, e8, hf⟩ := ob hf
  refine ev_cS_i i_X10_holds_8 lk_X10_holds_94 [.int x1, .int (0 : Int32), .int (v3 - (1 : Int32))] rfl rfl (by decide) (Nat.le_of_ble_eq_true rfl) (by decide) (e_X10_isIn e8) ?_
  refine ev_if_eq (tg := 22) i_X10_holds_11 (by decide) (fun c11 => ?_) (fun c11 => ?_)
  · rw [if_pos c11] at hf
    refine ev_iconst i_X10_holds_22 lt_i_m1 ?_
    refine ev_goto (tg := 41) i_X10_holds_23 (by decide) ?_
    cases hf
    exact ev_iiret i_X10_holds_41 rfl
  · rw [if_neg c11] at hf
    refine ev_aload_n i_X10_holds_14 rfl ?_
    refine ev_iload_n i_X10_holds_15 rfl ?_
    obtain ⟨v16, e16, hf⟩ := ob hf
    refine ev_cV_i i_X10_holds_16 lk_X10_holds_135 [.int x2] rfl rfl (by decide) (gK_of e16).1.1 (gK_of e16).1.2 (Nat.le_of_ble_eq_true rfl) (by decide) (e_X10_isMixture e16) ?_
    refine ev_if_ne (tg := 26) i_X10_holds_19 (by decide) (fun c19 => ?_) (fun c19 => ?_)
    · rw [if_neg c19] at hf
      refine ev_aload_n i_X10_holds_26 rfl ?_
      refine ev_iload_n i_X10_holds_27 rfl ?_
      refine ev_iload_n i_X10_holds_28 rfl ?_
      obtain ⟨r29, e29, hf⟩ := ob hf
      refine ev_cV_i i_X10_holds_29 lk_X10_holds_151 [.int x1, .int x2] rfl rfl (by decide) (gK_of e29).1.1 (gK_of e29).1.2 (Nat.le_of_ble_eq_true rfl) (by decide) (e_X10_breaks e29) ?_
      refine ev_iconst i_X10_holds_32 lt_i_m1 ?_
      refine ev_icmp_ne (tg := 40) i_X10_holds_33 (by decide) (fun c33 => ?_) (fun c33 => ?_)
      · rw [if_neg c33] at hf
        refine ev_iconst i_X10_holds_40 lt_i_0 ?_
        cases hf
        exact ev_iiret i_X10_holds_41 rfl
      · rw [if_pos c33] at hf
        refine ev_iconst i_X10_holds_36 lt_i_1 ?_
        refine ev_goto (tg := 41) i_X10_holds_37 (by decide) ?_
        cases hf
        exact ev_iiret i_X10_holds_41 rfl
    · rw [if_pos c19] at hf
      refine ev_iconst i_X10_holds_22 lt_i_m1 ?_
      refine ev_goto (tg := 41) i_X10_holds_23 (by decide) ?_
      cases hf
      exact ev_iiret i_X10_holds_41 rfl
def f_X10_kept (h : MH) (a0 : Nat) (x1 : Int32) : Option (Int32 × MH) := gK h a0 10 ((gI h a0 10 2).bind fun v3 => (f_X10_isIn h x1 (0 : Int32) (v3 - (1 : Int32))).bind fun v8 => (if v8 = 0 then (some ((-1 : Int32), h)) else ((f_X10_isKeptOne h a0 x1).bind fun r20 => (if r20.1 = 0 then (some ((0 : Int32), r20.2)) else (some ((1 : Int32), r20.2))))))
set_option maxRecDepth 20000 in
theorem e_X10_kept {G : GG} {h : MH} {a0 : Nat} {x1 : Int32} {r : (Int32 × MH)} (hf : f_X10_kept h a0 x1 = some r) : Ev G 8 M_X10_kept 0 (ent M_X10_kept [.ref a0, .int x1]) [] h (some (.int r.1)) r.2 := by
  unfold f_X10_kept at hf
  show Ev G 8 M_X10_kept 0 [some (.ref a0), some (.int x1)] [] h (some (.int r.1)) r.2
  obtain ⟨-, hf⟩ := gK_of hf
  refine ev_iload_n i_X10_kept_0 rfl ?_
  refine ev_iconst i_X10_kept_1 lt_i_0 ?_
  refine ev_aload_n i_X10_kept_2 rfl ?_
  obtain ⟨v3, e3, hf⟩ := ob hf
  refine ev_gI i_X10_kept_3 fl_X10_88 rfl e3 ?_
  refine ev_iconst i_X10_kept_6 lt_i_1 ?_
  refine ev_isub i_X10_kept_7 ?_
  obtain ⟨v8, e8, hf⟩ := ob hf
  refine ev_cS_i i_X10_kept_8 lk_X10_kept_94 [.int x1, .int (0 : Int32), .int (v3 - (1 : Int32))] rfl rfl (by decide) (Nat.le_of_ble_eq_true rfl) (by decide) (e_X10_isIn e8) ?_
  refine ev_if_ne (tg := 18) i_X10_kept_11 (by decide) (fun c11 => ?_) (fun c11 => ?_)
  · rw [if_neg c11] at hf
    refine ev_aload_n i_X10_kept_18 rfl ?_
    refine ev_iload_n i_X10_kept_19 rfl ?_
    obtain ⟨r20, e20, hf⟩ := ob hf
    refine ev_cV_i i_X10_kept_20 lk_X10_kept_155 [.int x1] rfl rfl (by decide) (gK_of e20).1.1 (gK_of e20).1.2 (Nat.le_of_ble_eq_true rfl) (by decide) (e_X10_isKeptOne e20) ?_
    refine ev_if_eq (tg := 30) i_X10_kept_23 (by decide) (fun c23 => ?_) (fun c23 => ?_)
    · rw [if_pos c23] at hf
      refine ev_iconst i_X10_kept_30 lt_i_0 ?_
      cases hf
      exact ev_iiret i_X10_kept_31 rfl
    · rw [if_neg c23] at hf
      refine ev_iconst i_X10_kept_26 lt_i_1 ?_
      refine ev_goto (tg := 31) i_X10_kept_27 (by decide) ?_
      cases hf
      exact ev_iiret i_X10_kept_31 rfl
  · rw [if_pos c11] at hf
    refine ev_iconst i_X10_kept_14 lt_i_m1 ?_
    refine ev_goto (tg := 31) i_X10_kept_15 (by decide) ?_
    cases hf
    exact ev_iiret i_X10_kept_31 rfl
def f_X10_why_j47 (k21 : Int32 → MH → Option (Int32 × MH)) (h : MH) (a0 : Nat) (x1 : Int32) (x2 : Int32) (x3 : Int32) (xs0 : Int32) : Option (Int32 × MH) := (if xs0 = (-1 : Int32) then (k21 (x3 + (1 : Int32)) h) else ((if x2 = 0 then (some (x3, h)) else (some (xs0, h)))))
set_option maxRecDepth 20000 in
theorem j_X10_why_47 {G : GG} {k21 : Int32 → MH → Option (Int32 × MH)} {h : MH} {a0 : Nat} {x1 : Int32} {x2 : Int32} {x3 : Int32} {xs0 : Int32} {r : (Int32 × MH)} (hk21 : ∀ (x3z : Int32) (hz : MH) (r : (Int32 × MH)), k21 x3z hz = some r → Ev G 8 M_X10_why 21 [some (.ref a0), some (.int x1), some (.int x2), some (.int x3z), none] [] hz (some (.int r.1)) r.2) (hf : f_X10_why_j47 k21 h a0 x1 x2 x3 xs0 = some r) : Ev G 8 M_X10_why 47 [some (.ref a0), some (.int x1), some (.int x2), some (.int x3), none] [.int xs0] h (some (.int r.1)) r.2 := by
  unfold f_X10_why_j47 at hf
  refine ev_istore i_X10_why_47 (by decide) ?_
  refine ev_iload i_X10_why_49 rfl ?_
  refine ev_iconst i_X10_why_51 lt_i_m1 ?_
  refine ev_icmp_eq (tg := 66) i_X10_why_52 (by decide) (fun c52 => ?_) (fun c52 => ?_)
  · rw [if_pos c52] at hf
    refine ev_iinc (y := (x3 + (1 : Int32))) i_X10_why_66 rfl rfl (by decide) ?_
    refine ev_goto (tg := 21) i_X10_why_69 (by decide) ?_
    refine ev_sub (lc2 := [some (.ref a0), some (.int x1), some (.int x2), some (.int (x3 + (1 : Int32))), none]) ⟨Or.inr rfl, Or.inr rfl, Or.inr rfl, Or.inr rfl, Or.inl rfl, trivial⟩ ?_
    exact hk21 (x3 + (1 : Int32)) h _ hf
  · rw [if_neg c52] at hf
    refine ev_iload_n i_X10_why_55 rfl ?_
    refine ev_if_ne (tg := 63) i_X10_why_56 (by decide) (fun c56 => ?_) (fun c56 => ?_)
    · rw [if_neg c56] at hf
      refine ev_iload i_X10_why_63 rfl ?_
      cases hf
      exact ev_iiret i_X10_why_65 rfl
    · rw [if_pos c56] at hf
      refine ev_iload_n i_X10_why_59 rfl ?_
      refine ev_goto (tg := 65) i_X10_why_60 (by decide) ?_
      cases hf
      exact ev_iiret i_X10_why_65 rfl
def f_X10_why_L21 (k72 : MH → Option (Int32 × MH)) (a0 : Nat) (x1 : Int32) (x2 : Int32) : Nat → MH → Int32 → Option (Int32 × MH)
  | 0, _, _ => none
  | n + 1, h, x3 => (gI h a0 10 2).bind fun v23 => (if v23 ≤ x3 then (k72 h) else ((f_X10_isKeptOne h a0 x3).bind fun r31 => (if r31.1 = 0 then (f_X10_why_j47 (fun x3f21 hf21 => f_X10_why_L21 k72 a0 x1 x2 n hf21 x3f21) r31.2 a0 x1 x2 x3 (-1 : Int32)) else ((f_X10_breaks r31.2 a0 x3 x1).bind fun r40 => f_X10_why_j47 (fun x3f21 hf21 => f_X10_why_L21 k72 a0 x1 x2 n hf21 x3f21) r40.2 a0 x1 x2 x3 r40.1))))
set_option maxRecDepth 20000 in
theorem l_X10_why_21 {G : GG} {k72 : MH → Option (Int32 × MH)} {a0 : Nat} {x1 : Int32} {x2 : Int32} (hk72 : ∀ (hz : MH) (r : (Int32 × MH)), k72 hz = some r → Ev G 8 M_X10_why 72 [none, none, none, none, none] [] hz (some (.int r.1)) r.2) : ∀ (n : Nat) (h : MH) (x3 : Int32) (r : (Int32 × MH)), f_X10_why_L21 k72 a0 x1 x2 n h x3 = some r → Ev G 8 M_X10_why 21 [some (.ref a0), some (.int x1), some (.int x2), some (.int x3), none] [] h (some (.int r.1)) r.2 := by
  intro n
  induction n with
  | zero => intro h x3 r hf; rw [f_X10_why_L21] at hf; cases hf
  | succ n ih =>
    intro h x3 r hf
    rw [f_X10_why_L21] at hf
    refine ev_iload_n i_X10_why_21 rfl ?_
    refine ev_aload_n i_X10_why_22 rfl ?_
    obtain ⟨v23, e23, hf⟩ := ob hf
    refine ev_gI i_X10_why_23 fl_X10_88 rfl e23 ?_
    refine ev_icmp_ge (tg := 72) i_X10_why_26 (by decide) (fun c26 => ?_) (fun c26 => ?_)
    · rw [if_pos c26] at hf
      refine ev_sub (lc2 := [none, none, none, none, none]) ⟨Or.inl rfl, Or.inl rfl, Or.inl rfl, Or.inl rfl, Or.inr rfl, trivial⟩ ?_
      exact hk72 h _ hf
    · rw [if_neg c26] at hf
      refine ev_aload_n i_X10_why_29 rfl ?_
      refine ev_iload_n i_X10_why_30 rfl ?_
      obtain ⟨r31, e31, hf⟩ := ob hf
      refine ev_cV_i i_X10_why_31 lk_X10_why_155 [.int x3] rfl rfl (by decide) (gK_of e31).1.1 (gK_of e31).1.2 (Nat.le_of_ble_eq_true rfl) (by decide) (e_X10_isKeptOne e31) ?_
      refine ev_if_eq (tg := 46) i_X10_why_34 (by decide) (fun c34 => ?_) (fun c34 => ?_)
      · rw [if_pos c34] at hf
        refine ev_iconst i_X10_why_46 lt_i_m1 ?_
        exact j_X10_why_47 (fun x3f21 hf21 r hf => by
          exact ih hf21 x3f21 _ hf) hf
      · rw [if_neg c34] at hf
        refine ev_aload_n i_X10_why_37 rfl ?_
        refine ev_iload_n i_X10_why_38 rfl ?_
        refine ev_iload_n i_X10_why_39 rfl ?_
        obtain ⟨r40, e40, hf⟩ := ob hf
        refine ev_cV_i i_X10_why_40 lk_X10_why_151 [.int x3, .int x1] rfl rfl (by decide) (gK_of e40).1.1 (gK_of e40).1.2 (Nat.le_of_ble_eq_true rfl) (by decide) (e_X10_breaks e40) ?_
        refine ev_goto (tg := 47) i_X10_why_43 (by decide) ?_
        exact j_X10_why_47 (fun x3f21 hf21 r hf => by
          exact ih hf21 x3f21 _ hf) hf
def f_X10_why (h : MH) (a0 : Nat) (x1 : Int32) (x2 : Int32) : Option (Int32 × MH) := gK h a0 10 ((f_X10_isMixture h a0 x1).bind fun v2 => (if v2 = 0 then (some ((-1 : Int32), h)) else ((f_X10_isIn h x2 (0 : Int32) (1 : Int32)).bind fun v11 => (if v11 = 0 then (some ((-1 : Int32), h)) else (f_X10_why_L21 (fun he72 => some ((-1 : Int32), he72)) a0 x1 x2 fuel h (0 : Int32))))))
set_option maxRecDepth 20000 in
theorem e_X10_why {G : GG} {h : MH} {a0 : Nat} {x1 : Int32} {x2 : Int32} {r : (Int32 × MH)} (hf : f_X10_why h a0 x1 x2 = some r) : Ev G 8 M_X10_why 0 (ent M_X10_why [.ref a0, .int x1, .int x2]) [] h (some (.int r.1)) r.2 := by
  unfold f_X10_why at hf
  show Ev G 8 M_X10_why 0 [some (.ref a0), some (.int x1), some (.int x2), none, none] [] h (some (.int r.1)) r.2
  obtain ⟨-, hf⟩ := gK_of hf
  refine ev_aload_n i_X10_why_0 rfl ?_
  refine ev_iload_n i_X10_why_1 rfl ?_
  obtain ⟨v2, e2, hf⟩ := ob hf
  refine ev_cV_i i_X10_why_2 lk_X10_why_135 [.int x1] rfl rfl (by decide) (gK_of e2).1.1 (gK_of e2).1.2 (Nat.le_of_ble_eq_true rfl) (by decide) (e_X10_isMixture e2) ?_
  refine ev_if_eq (tg := 17) i_X10_why_5 (by decide) (fun c5 => ?_) (fun c5 => ?_)
  · rw [if_pos c5] at hf
    refine ev_iconst i_X10_why_17 lt_i_m1 ?_
    cases hf
    exact ev_iiret i_X10_why_18 rfl
  · rw [if_neg c5] at hf
    refine ev_iload_n i_X10_why_8 rfl ?_
    refine ev_iconst i_X10_why_9 lt_i_0 ?_
    refine ev_iconst i_X10_why_10 lt_i_1 ?_
    obtain ⟨v11, e11, hf⟩ := ob hf
    refine ev_cS_i i_X10_why_11 lk_X10_why_94 [.int x2, .int (0 : Int32), .int (1 : Int32)] rfl rfl (by decide) (Nat.le_of_ble_eq_true rfl) (by decide) (e_X10_isIn e11) ?_
    refine ev_if_ne (tg := 19) i_X10_why_14 (by decide) (fun c14 => ?_) (fun c14 => ?_)
    · rw [if_neg c14] at hf
      refine ev_iconst i_X10_why_19 lt_i_0 ?_
      refine ev_istore_n i_X10_why_20 (by decide) ?_
      exact l_X10_why_21 (fun he72 r hf => by
        refine ev_iconst i_X10_why_72 lt_i_m1 ?_
        cases hf
        exact ev_iiret i_X10_why_73 rfl) fuel h (0 : Int32) _ hf
    · rw [if_pos c14] at hf
      refine ev_iconst i_X10_why_17 lt_i_m1 ?_
      cases hf
      exact ev_iiret i_X10_why_18 rfl
def f_X10_learn_L15 (k50 : MH → Option MH) (a0 : Nat) : Nat → MH → Int32 → Option MH
  | 0, _, _ => none
  | n + 1, h, x1 => (f_X10_all h a0).bind fun v17 => (if v17 < x1 then (k50 h) else ((gR h a0 10 22).bind fun b24 => (f_X10_why h a0 x1 (0 : Int32)).bind fun r31 => (if r31.1 = (-1 : Int32) then ((sZ r31.2 b24 x1 (1 : Int32)).bind fun h43 => f_X10_learn_L15 k50 a0 n h43 (x1 + (1 : Int32))) else ((sZ r31.2 b24 x1 (0 : Int32)).bind fun h43 => f_X10_learn_L15 k50 a0 n h43 (x1 + (1 : Int32))))))
set_option maxRecDepth 20000 in
theorem l_X10_learn_15 {G : GG} {k50 : MH → Option MH} {a0 : Nat} (hk50 : ∀ (hz : MH) (r : MH), k50 hz = some r → Ev G 9 M_X10_learn 50 [none, none] [] hz none r) : ∀ (n : Nat) (h : MH) (x1 : Int32) (r : MH), f_X10_learn_L15 k50 a0 n h x1 = some r → Ev G 9 M_X10_learn 15 [some (.ref a0), some (.int x1)] [] h none r := by
  intro n
  induction n with
  | zero => intro h x1 r hf; rw [f_X10_learn_L15] at hf; cases hf
  | succ n ih =>
    intro h x1 r hf
    rw [f_X10_learn_L15] at hf
    refine ev_iload_n i_X10_learn_15 rfl ?_
    refine ev_aload_n i_X10_learn_16 rfl ?_
    obtain ⟨v17, e17, hf⟩ := ob hf
    refine ev_cV_i i_X10_learn_17 lk_X10_learn_131 [] rfl rfl (by decide) (gK_of e17).1.1 (gK_of e17).1.2 (Nat.le_of_ble_eq_true rfl) (by decide) (e_X10_all e17) ?_
    refine ev_icmp_gt (tg := 50) i_X10_learn_20 (by decide) (fun c20 => ?_) (fun c20 => ?_)
    · rw [if_pos c20] at hf
      refine ev_sub (lc2 := [none, none]) ⟨Or.inl rfl, Or.inl rfl, trivial⟩ ?_
      exact hk50 h _ hf
    · rw [if_neg c20] at hf
      refine ev_aload_n i_X10_learn_23 rfl ?_
      obtain ⟨b24, e24, hf⟩ := ob hf
      refine ev_gR i_X10_learn_24 fl_X10_44 rfl e24 ?_
      refine ev_iload_n i_X10_learn_27 rfl ?_
      refine ev_aload_n i_X10_learn_28 rfl ?_
      refine ev_iload_n i_X10_learn_29 rfl ?_
      refine ev_iconst i_X10_learn_30 lt_i_0 ?_
      obtain ⟨r31, e31, hf⟩ := ob hf
      refine ev_cV_i i_X10_learn_31 lk_X10_learn_168 [.int x1, .int (0 : Int32)] rfl rfl (by decide) (gK_of e31).1.1 (gK_of e31).1.2 (Nat.le_of_ble_eq_true rfl) (by decide) (e_X10_why e31) ?_
      refine ev_iconst i_X10_learn_34 lt_i_m1 ?_
      refine ev_icmp_ne (tg := 42) i_X10_learn_35 (by decide) (fun c35 => ?_) (fun c35 => ?_)
      · rw [if_neg c35] at hf
        refine ev_iconst i_X10_learn_42 lt_i_0 ?_
        obtain ⟨h43, e43, hf⟩ := ob hf
        refine ev_sZ i_X10_learn_43 e43 ?_
        refine ev_iinc (y := (x1 + (1 : Int32))) i_X10_learn_44 rfl rfl (by decide) ?_
        refine ev_goto (tg := 15) i_X10_learn_47 (by decide) ?_
        exact ih h43 (x1 + (1 : Int32)) _ hf
      · rw [if_pos c35] at hf
        refine ev_iconst i_X10_learn_38 lt_i_1 ?_
        refine ev_goto (tg := 43) i_X10_learn_39 (by decide) ?_
        obtain ⟨h43, e43, hf⟩ := ob hf
        refine ev_sZ i_X10_learn_43 e43 ?_
        refine ev_iinc (y := (x1 + (1 : Int32))) i_X10_learn_44 rfl rfl (by decide) ?_
        refine ev_goto (tg := 15) i_X10_learn_47 (by decide) ?_
        exact ih h43 (x1 + (1 : Int32)) _ hf
def f_X10_learn (h : MH) (a0 : Nat) : Option MH := gK h a0 10 ((gI h a0 10 21).bind fun v1 => (if v1 = 0 then ((pZ h a0 10 21 (1 : Int32)).bind fun h10 => f_X10_learn_L15 (fun he50 => some he50) a0 fuel h10 (0 : Int32)) else (some h)))
set_option maxRecDepth 20000 in
theorem e_X10_learn {G : GG} {h : MH} {a0 : Nat} {r : MH} (hf : f_X10_learn h a0 = some r) : Ev G 9 M_X10_learn 0 (ent M_X10_learn [.ref a0]) [] h none r := by
  unfold f_X10_learn at hf
  show Ev G 9 M_X10_learn 0 [some (.ref a0), none] [] h none r
  obtain ⟨-, hf⟩ := gK_of hf
  refine ev_aload_n i_X10_learn_0 rfl ?_
  obtain ⟨v1, e1, hf⟩ := ob hf
  refine ev_gI i_X10_learn_1 fl_X10_158 rfl e1 ?_
  refine ev_if_eq (tg := 8) i_X10_learn_4 (by decide) (fun c4 => ?_) (fun c4 => ?_)
  · rw [if_pos c4] at hf
    refine ev_aload_n i_X10_learn_8 rfl ?_
    refine ev_iconst i_X10_learn_9 lt_i_1 ?_
    obtain ⟨h10, e10, hf⟩ := ob hf
    refine ev_pZ i_X10_learn_10 fp_X10_learn_158 rfl e10 ?_
    refine ev_iconst i_X10_learn_13 lt_i_0 ?_
    refine ev_istore_n i_X10_learn_14 (by decide) ?_
    exact l_X10_learn_15 (fun he50 r hf => by
      cases hf
      exact ev_vret i_X10_learn_50 rfl) fuel h10 (0 : Int32) _ hf
  · rw [if_neg c4] at hf
    cases hf
    exact ev_vret i_X10_learn_7 rfl
def f_X10_unlike_L39 (k101 : Int32 → Option Int32) (h : MH) (a0 : Nat) (x1 : Int32) (x2 : Int32) : Nat → Int32 → Int32 → Option Int32
  | 0, _, _ => none
  | n + 1, x3, x4 => (gR h a0 10 6).bind fun b43 => (aI h b43 x2).bind fun v47 => (if ((4 : Int32) * v47) ≤ x4 then (k101 x3) else ((if x3 = 0 then (k101 x3) else ((gR h a0 10 7).bind fun b57 => (f_X10_ruleAt h a0 (0 : Int32) x2 (0 : Int32)).bind fun v64 => (aI h b57 (v64 + x4)).bind fun v70 => (gR h a0 10 7).bind fun b72 => (f_X10_ruleAt h a0 (1 : Int32) x2 (0 : Int32)).bind fun v79 => (aI h b72 (v79 + x4)).bind fun v85 => (if v70 = v85 then (f_X10_unlike_L39 k101 h a0 x1 x2 n (1 : Int32) (x4 + (1 : Int32))) else (f_X10_unlike_L39 k101 h a0 x1 x2 n (0 : Int32) (x4 + (1 : Int32))))))))
set_option maxRecDepth 20000 in
theorem l_X10_unlike_39 {G : GG} {k101 : Int32 → Option Int32} {h : MH} {a0 : Nat} {x1 : Int32} {x2 : Int32} (hk101 : ∀ (x3z : Int32) (r : Int32), k101 x3z = some r → Ev G 1 M_X10_unlike 101 [some (.ref a0), some (.int x1), some (.int x2), some (.int x3z), none] [] h (some (.int r)) h) : ∀ (n : Nat) (x3 : Int32) (x4 : Int32) (r : Int32), f_X10_unlike_L39 k101 h a0 x1 x2 n x3 x4 = some r → Ev G 1 M_X10_unlike 39 [some (.ref a0), some (.int x1), some (.int x2), some (.int x3), some (.int x4)] [] h (some (.int r)) h := by
  intro n
  induction n with
  | zero => intro x3 x4 r hf; rw [f_X10_unlike_L39] at hf; cases hf
  | succ n ih =>
    intro x3 x4 r hf
    rw [f_X10_unlike_L39] at hf
    refine ev_iload i_X10_unlike_39 rfl ?_
    refine ev_iconst i_X10_unlike_41 lt_i_4 ?_
    refine ev_aload_n i_X10_unlike_42 rfl ?_
    obtain ⟨b43, e43, hf⟩ := ob hf
    refine ev_gR i_X10_unlike_43 fl_X10_19 rfl e43 ?_
    refine ev_iload_n i_X10_unlike_46 rfl ?_
    obtain ⟨v47, e47, hf⟩ := ob hf
    refine ev_aI i_X10_unlike_47 e47 ?_
    refine ev_imul i_X10_unlike_48 ?_
    refine ev_icmp_ge (tg := 101) i_X10_unlike_49 (by decide) (fun c49 => ?_) (fun c49 => ?_)
    · rw [if_pos c49] at hf
      refine ev_sub (lc2 := [some (.ref a0), some (.int x1), some (.int x2), some (.int x3), none]) ⟨Or.inr rfl, Or.inr rfl, Or.inr rfl, Or.inr rfl, Or.inl rfl, trivial⟩ ?_
      exact hk101 x3 _ hf
    · rw [if_neg c49] at hf
      refine ev_iload_n i_X10_unlike_52 rfl ?_
      refine ev_if_eq (tg := 101) i_X10_unlike_53 (by decide) (fun c53 => ?_) (fun c53 => ?_)
      · rw [if_pos c53] at hf
        refine ev_sub (lc2 := [some (.ref a0), some (.int x1), some (.int x2), some (.int x3), none]) ⟨Or.inr rfl, Or.inr rfl, Or.inr rfl, Or.inr rfl, Or.inl rfl, trivial⟩ ?_
        exact hk101 x3 _ hf
      · rw [if_neg c53] at hf
        refine ev_aload_n i_X10_unlike_56 rfl ?_
        obtain ⟨b57, e57, hf⟩ := ob hf
        refine ev_gR i_X10_unlike_57 fl_X10_22 rfl e57 ?_
        refine ev_aload_n i_X10_unlike_60 rfl ?_
        refine ev_iconst i_X10_unlike_61 lt_i_0 ?_
        refine ev_iload_n i_X10_unlike_62 rfl ?_
        refine ev_iconst i_X10_unlike_63 lt_i_0 ?_
        obtain ⟨v64, e64, hf⟩ := ob hf
        refine ev_cV_i i_X10_unlike_64 lk_X10_unlike_112 [.int (0 : Int32), .int x2, .int (0 : Int32)] rfl rfl (by decide) (gK_of e64).1.1 (gK_of e64).1.2 (Nat.le_of_ble_eq_true rfl) (by decide) (e_X10_ruleAt e64) ?_
        refine ev_iload i_X10_unlike_67 rfl ?_
        refine ev_iadd i_X10_unlike_69 ?_
        obtain ⟨v70, e70, hf⟩ := ob hf
        refine ev_aI i_X10_unlike_70 e70 ?_
        refine ev_aload_n i_X10_unlike_71 rfl ?_
        obtain ⟨b72, e72, hf⟩ := ob hf
        refine ev_gR i_X10_unlike_72 fl_X10_22 rfl e72 ?_
        refine ev_aload_n i_X10_unlike_75 rfl ?_
        refine ev_iconst i_X10_unlike_76 lt_i_1 ?_
        refine ev_iload_n i_X10_unlike_77 rfl ?_
        refine ev_iconst i_X10_unlike_78 lt_i_0 ?_
        obtain ⟨v79, e79, hf⟩ := ob hf
        refine ev_cV_i i_X10_unlike_79 lk_X10_unlike_112 [.int (1 : Int32), .int x2, .int (0 : Int32)] rfl rfl (by decide) (gK_of e79).1.1 (gK_of e79).1.2 (Nat.le_of_ble_eq_true rfl) (by decide) (e_X10_ruleAt e79) ?_
        refine ev_iload i_X10_unlike_82 rfl ?_
        refine ev_iadd i_X10_unlike_84 ?_
        obtain ⟨v85, e85, hf⟩ := ob hf
        refine ev_aI i_X10_unlike_85 e85 ?_
        refine ev_icmp_ne (tg := 93) i_X10_unlike_86 (by decide) (fun c86 => ?_) (fun c86 => ?_)
        · rw [if_neg c86] at hf
          refine ev_iconst i_X10_unlike_93 lt_i_0 ?_
          refine ev_istore_n i_X10_unlike_94 (by decide) ?_
          refine ev_iinc (y := (x4 + (1 : Int32))) i_X10_unlike_95 rfl rfl (by decide) ?_
          refine ev_goto (tg := 39) i_X10_unlike_98 (by decide) ?_
          exact ih (0 : Int32) (x4 + (1 : Int32)) _ hf
        · rw [if_pos c86] at hf
          refine ev_iconst i_X10_unlike_89 lt_i_1 ?_
          refine ev_goto (tg := 94) i_X10_unlike_90 (by decide) ?_
          refine ev_istore_n i_X10_unlike_94 (by decide) ?_
          refine ev_iinc (y := (x4 + (1 : Int32))) i_X10_unlike_95 rfl rfl (by decide) ?_
          refine ev_goto (tg := 39) i_X10_unlike_98 (by decide) ?_
          exact ih (1 : Int32) (x4 + (1 : Int32)) _ hf
def f_X10_unlike_j35 (k4 : Int32 → Int32 → Option Int32) (h : MH) (a0 : Nat) (x1 : Int32) (x2 : Int32) (xs0 : Int32) : Option Int32 := f_X10_unlike_L39 (fun x3e101 => (if x3e101 = 0 then (k4 (x1 ||| ((1 : Int32) <<< (x2 &&& 31))) (x2 + (1 : Int32))) else (k4 (x1 ||| (0 : Int32)) (x2 + (1 : Int32))))) h a0 x1 x2 fuel xs0 (0 : Int32)
set_option maxRecDepth 20000 in
theorem j_X10_unlike_35 {G : GG} {k4 : Int32 → Int32 → Option Int32} {h : MH} {a0 : Nat} {x1 : Int32} {x2 : Int32} {xs0 : Int32} {r : Int32} (hk4 : ∀ (x1z : Int32) (x2z : Int32) (r : Int32), k4 x1z x2z = some r → Ev G 1 M_X10_unlike 4 [some (.ref a0), some (.int x1z), some (.int x2z), none, none] [] h (some (.int r)) h) (hf : f_X10_unlike_j35 k4 h a0 x1 x2 xs0 = some r) : Ev G 1 M_X10_unlike 35 [some (.ref a0), some (.int x1), some (.int x2), none, none] [.int xs0] h (some (.int r)) h := by
  unfold f_X10_unlike_j35 at hf
  refine ev_istore_n i_X10_unlike_35 (by decide) ?_
  refine ev_iconst i_X10_unlike_36 lt_i_0 ?_
  refine ev_istore i_X10_unlike_37 (by decide) ?_
  exact l_X10_unlike_39 (fun x3e101 r hf => by
    refine ev_iload_n i_X10_unlike_101 rfl ?_
    refine ev_iload_n i_X10_unlike_102 rfl ?_
    refine ev_if_eq (tg := 110) i_X10_unlike_103 (by decide) (fun c103 => ?_) (fun c103 => ?_)
    · rw [if_pos c103] at hf
      refine ev_iconst i_X10_unlike_110 lt_i_1 ?_
      refine ev_iload_n i_X10_unlike_111 rfl ?_
      refine ev_ishl i_X10_unlike_112 ?_
      refine ev_ior i_X10_unlike_113 ?_
      refine ev_istore_n i_X10_unlike_114 (by decide) ?_
      refine ev_iinc (y := (x2 + (1 : Int32))) i_X10_unlike_115 rfl rfl (by decide) ?_
      refine ev_goto (tg := 4) i_X10_unlike_118 (by decide) ?_
      refine ev_sub (lc2 := [some (.ref a0), some (.int (x1 ||| ((1 : Int32) <<< (x2 &&& 31)))), some (.int (x2 + (1 : Int32))), none, none]) ⟨Or.inr rfl, Or.inr rfl, Or.inr rfl, Or.inl rfl, Or.inr rfl, trivial⟩ ?_
      exact hk4 (x1 ||| ((1 : Int32) <<< (x2 &&& 31))) (x2 + (1 : Int32)) _ hf
    · rw [if_neg c103] at hf
      refine ev_iconst i_X10_unlike_106 lt_i_0 ?_
      refine ev_goto (tg := 113) i_X10_unlike_107 (by decide) ?_
      refine ev_ior i_X10_unlike_113 ?_
      refine ev_istore_n i_X10_unlike_114 (by decide) ?_
      refine ev_iinc (y := (x2 + (1 : Int32))) i_X10_unlike_115 rfl rfl (by decide) ?_
      refine ev_goto (tg := 4) i_X10_unlike_118 (by decide) ?_
      refine ev_sub (lc2 := [some (.ref a0), some (.int (x1 ||| (0 : Int32))), some (.int (x2 + (1 : Int32))), none, none]) ⟨Or.inr rfl, Or.inr rfl, Or.inr rfl, Or.inl rfl, Or.inr rfl, trivial⟩ ?_
      exact hk4 (x1 ||| (0 : Int32)) (x2 + (1 : Int32)) _ hf) fuel xs0 (0 : Int32) _ hf
def f_X10_unlike_L4 (k121 : Int32 → Option Int32) (h : MH) (a0 : Nat) : Nat → Int32 → Int32 → Option Int32
  | 0, _, _ => none
  | n + 1, x1, x2 => (gI h a0 10 0).bind fun v6 => (if v6 ≤ x2 then (k121 x1) else ((gR h a0 10 6).bind fun b13 => (aI h b13 x2).bind fun v17 => (gR h a0 10 6).bind fun b19 => (aI h b19 ((7 : Int32) + x2)).bind fun v26 => (if v17 = v26 then (f_X10_unlike_j35 (fun x1f4 x2f4 => f_X10_unlike_L4 k121 h a0 n x1f4 x2f4) h a0 x1 x2 (1 : Int32)) else (f_X10_unlike_j35 (fun x1f4 x2f4 => f_X10_unlike_L4 k121 h a0 n x1f4 x2f4) h a0 x1 x2 (0 : Int32)))))
set_option maxRecDepth 20000 in
theorem l_X10_unlike_4 {G : GG} {k121 : Int32 → Option Int32} {h : MH} {a0 : Nat} (hk121 : ∀ (x1z : Int32) (r : Int32), k121 x1z = some r → Ev G 1 M_X10_unlike 121 [none, some (.int x1z), none, none, none] [] h (some (.int r)) h) : ∀ (n : Nat) (x1 : Int32) (x2 : Int32) (r : Int32), f_X10_unlike_L4 k121 h a0 n x1 x2 = some r → Ev G 1 M_X10_unlike 4 [some (.ref a0), some (.int x1), some (.int x2), none, none] [] h (some (.int r)) h := by
  intro n
  induction n with
  | zero => intro x1 x2 r hf; rw [f_X10_unlike_L4] at hf; cases hf
  | succ n ih =>
    intro x1 x2 r hf
    rw [f_X10_unlike_L4] at hf
    refine ev_iload_n i_X10_unlike_4 rfl ?_
    refine ev_aload_n i_X10_unlike_5 rfl ?_
    obtain ⟨v6, e6, hf⟩ := ob hf
    refine ev_gI i_X10_unlike_6 fl_X10_82 rfl e6 ?_
    refine ev_icmp_ge (tg := 121) i_X10_unlike_9 (by decide) (fun c9 => ?_) (fun c9 => ?_)
    · rw [if_pos c9] at hf
      refine ev_sub (lc2 := [none, some (.int x1), none, none, none]) ⟨Or.inl rfl, Or.inr rfl, Or.inl rfl, Or.inr rfl, Or.inr rfl, trivial⟩ ?_
      exact hk121 x1 _ hf
    · rw [if_neg c9] at hf
      refine ev_aload_n i_X10_unlike_12 rfl ?_
      obtain ⟨b13, e13, hf⟩ := ob hf
      refine ev_gR i_X10_unlike_13 fl_X10_19 rfl e13 ?_
      refine ev_iload_n i_X10_unlike_16 rfl ?_
      obtain ⟨v17, e17, hf⟩ := ob hf
      refine ev_aI i_X10_unlike_17 e17 ?_
      refine ev_aload_n i_X10_unlike_18 rfl ?_
      obtain ⟨b19, e19, hf⟩ := ob hf
      refine ev_gR i_X10_unlike_19 fl_X10_19 rfl e19 ?_
      refine ev_bipush i_X10_unlike_22 lt_b_7 ?_
      refine ev_iload_n i_X10_unlike_24 rfl ?_
      refine ev_iadd i_X10_unlike_25 ?_
      obtain ⟨v26, e26, hf⟩ := ob hf
      refine ev_aI i_X10_unlike_26 e26 ?_
      refine ev_icmp_ne (tg := 34) i_X10_unlike_27 (by decide) (fun c27 => ?_) (fun c27 => ?_)
      · rw [if_neg c27] at hf
        refine ev_iconst i_X10_unlike_34 lt_i_0 ?_
        exact j_X10_unlike_35 (fun x1f4 x2f4 r hf => by
          exact ih x1f4 x2f4 _ hf) hf
      · rw [if_pos c27] at hf
        refine ev_iconst i_X10_unlike_30 lt_i_1 ?_
        refine ev_goto (tg := 35) i_X10_unlike_31 (by decide) ?_
        exact j_X10_unlike_35 (fun x1f4 x2f4 r hf => by
          exact ih x1f4 x2f4 _ hf) hf
def f_X10_unlike (h : MH) (a0 : Nat) : Option Int32 := gK h a0 10 (f_X10_unlike_L4 (fun x1e121 => some x1e121) h a0 fuel (0 : Int32) (0 : Int32))
set_option maxRecDepth 20000 in
theorem e_X10_unlike {G : GG} {h : MH} {a0 : Nat} {r : Int32} (hf : f_X10_unlike h a0 = some r) : Ev G 1 M_X10_unlike 0 (ent M_X10_unlike [.ref a0]) [] h (some (.int r)) h := by
  unfold f_X10_unlike at hf
  show Ev G 1 M_X10_unlike 0 [some (.ref a0), none, none, none, none] [] h (some (.int r)) h
  obtain ⟨-, hf⟩ := gK_of hf
  refine ev_iconst i_X10_unlike_0 lt_i_0 ?_
  refine ev_istore_n i_X10_unlike_1 (by decide) ?_
  refine ev_iconst i_X10_unlike_2 lt_i_0 ?_
  refine ev_istore_n i_X10_unlike_3 (by decide) ?_
  exact l_X10_unlike_4 (fun x1e121 r hf => by
    refine ev_iload_n i_X10_unlike_121 rfl ?_
    cases hf
    exact ev_iiret i_X10_unlike_122 rfl) fuel (0 : Int32) (0 : Int32) _ hf
def f_X10_areAlike_L15 (k98 : Int32 → Option Int32) (h : MH) (a0 : Nat) (x1 : Int32) (x2 : Int32) (x4 : Int32) : Nat → Int32 → Int32 → Option Int32
  | 0, _, _ => none
  | n + 1, x3, x5 => (gR h a0 10 6).bind fun b18 => (aI h b18 x4).bind fun v23 => (if v23 ≤ x5 then (k98 x3) else ((if x3 = 0 then (k98 x3) else ((gR h a0 10 7).bind fun b45 => (aI h b45 ((4 : Int32) * (((6 : Int32) * x4) + x5))).bind fun v50 => (gR h a0 10 7).bind fun b52 => (aI h b52 (((4 : Int32) * (((6 : Int32) * x4) + x5)) + (1 : Int32))).bind fun v59 => (f_X10_isOfSpan h x1 v50 v59).bind fun v60 => (gR h a0 10 7).bind fun b65 => (aI h b65 ((4 : Int32) * (((6 : Int32) * x4) + x5))).bind fun v70 => (gR h a0 10 7).bind fun b72 => (aI h b72 (((4 : Int32) * (((6 : Int32) * x4) + x5)) + (1 : Int32))).bind fun v79 => (f_X10_isOfSpan h x2 v70 v79).bind fun v80 => (if v60 = v80 then (f_X10_areAlike_L15 k98 h a0 x1 x2 x4 n (1 : Int32) (x5 + (1 : Int32))) else (f_X10_areAlike_L15 k98 h a0 x1 x2 x4 n (0 : Int32) (x5 + (1 : Int32))))))))
set_option maxRecDepth 20000 in
theorem l_X10_areAlike_15 {G : GG} {k98 : Int32 → Option Int32} {h : MH} {a0 : Nat} {x1 : Int32} {x2 : Int32} {x4 : Int32} (hk98 : ∀ (x3z : Int32) (r : Int32), k98 x3z = some r → Ev G 1 M_X10_areAlike 98 [some (.ref a0), some (.int x1), some (.int x2), some (.int x3z), some (.int x4), none, none] [] h (some (.int r)) h) : ∀ (n : Nat) (x3 : Int32) (x5 : Int32) (r : Int32), f_X10_areAlike_L15 k98 h a0 x1 x2 x4 n x3 x5 = some r → Ev G 1 M_X10_areAlike 15 [some (.ref a0), some (.int x1), some (.int x2), some (.int x3), some (.int x4), some (.int x5), none] [] h (some (.int r)) h := by
  intro n
  induction n with
  | zero => intro x3 x5 r hf; rw [f_X10_areAlike_L15] at hf; cases hf
  | succ n ih =>
    intro x3 x5 r hf
    rw [f_X10_areAlike_L15] at hf
    refine ev_iload i_X10_areAlike_15 rfl ?_
    refine ev_aload_n i_X10_areAlike_17 rfl ?_
    obtain ⟨b18, e18, hf⟩ := ob hf
    refine ev_gR i_X10_areAlike_18 fl_X10_19 rfl e18 ?_
    refine ev_iload i_X10_areAlike_21 rfl ?_
    obtain ⟨v23, e23, hf⟩ := ob hf
    refine ev_aI i_X10_areAlike_23 e23 ?_
    refine ev_icmp_ge (tg := 98) i_X10_areAlike_24 (by decide) (fun c24 => ?_) (fun c24 => ?_)
    · rw [if_pos c24] at hf
      refine ev_sub (lc2 := [some (.ref a0), some (.int x1), some (.int x2), some (.int x3), some (.int x4), none, none]) ⟨Or.inr rfl, Or.inr rfl, Or.inr rfl, Or.inr rfl, Or.inr rfl, Or.inl rfl, Or.inr rfl, trivial⟩ ?_
      exact hk98 x3 _ hf
    · rw [if_neg c24] at hf
      refine ev_iload_n i_X10_areAlike_27 rfl ?_
      refine ev_if_eq (tg := 98) i_X10_areAlike_28 (by decide) (fun c28 => ?_) (fun c28 => ?_)
      · rw [if_pos c28] at hf
        refine ev_sub (lc2 := [some (.ref a0), some (.int x1), some (.int x2), some (.int x3), some (.int x4), none, none]) ⟨Or.inr rfl, Or.inr rfl, Or.inr rfl, Or.inr rfl, Or.inr rfl, Or.inl rfl, Or.inr rfl, trivial⟩ ?_
        exact hk98 x3 _ hf
      · rw [if_neg c28] at hf
        refine ev_iconst i_X10_areAlike_31 lt_i_4 ?_
        refine ev_bipush i_X10_areAlike_32 lt_b_6 ?_
        refine ev_iload i_X10_areAlike_34 rfl ?_
        refine ev_imul i_X10_areAlike_36 ?_
        refine ev_iload i_X10_areAlike_37 rfl ?_
        refine ev_iadd i_X10_areAlike_39 ?_
        refine ev_imul i_X10_areAlike_40 ?_
        refine ev_istore i_X10_areAlike_41 (by decide) ?_
        refine ev_iload_n i_X10_areAlike_43 rfl ?_
        refine ev_aload_n i_X10_areAlike_44 rfl ?_
        obtain ⟨b45, e45, hf⟩ := ob hf
        refine ev_gR i_X10_areAlike_45 fl_X10_22 rfl e45 ?_
        refine ev_iload i_X10_areAlike_48 rfl ?_
        obtain ⟨v50, e50, hf⟩ := ob hf
        refine ev_aI i_X10_areAlike_50 e50 ?_
        refine ev_aload_n i_X10_areAlike_51 rfl ?_
        obtain ⟨b52, e52, hf⟩ := ob hf
        refine ev_gR i_X10_areAlike_52 fl_X10_22 rfl e52 ?_
        refine ev_iload i_X10_areAlike_55 rfl ?_
        refine ev_iconst i_X10_areAlike_57 lt_i_1 ?_
        refine ev_iadd i_X10_areAlike_58 ?_
        obtain ⟨v59, e59, hf⟩ := ob hf
        refine ev_aI i_X10_areAlike_59 e59 ?_
        obtain ⟨v60, e60, hf⟩ := ob hf
        refine ev_cS_i i_X10_areAlike_60 lk_X10_areAlike_116 [.int x1, .int v50, .int v59] rfl rfl (by decide) (Nat.le_of_ble_eq_true rfl) (by decide) (e_X10_isOfSpan e60) ?_
        refine ev_iload_n i_X10_areAlike_63 rfl ?_
        refine ev_aload_n i_X10_areAlike_64 rfl ?_
        obtain ⟨b65, e65, hf⟩ := ob hf
        refine ev_gR i_X10_areAlike_65 fl_X10_22 rfl e65 ?_
        refine ev_iload i_X10_areAlike_68 rfl ?_
        obtain ⟨v70, e70, hf⟩ := ob hf
        refine ev_aI i_X10_areAlike_70 e70 ?_
        refine ev_aload_n i_X10_areAlike_71 rfl ?_
        obtain ⟨b72, e72, hf⟩ := ob hf
        refine ev_gR i_X10_areAlike_72 fl_X10_22 rfl e72 ?_
        refine ev_iload i_X10_areAlike_75 rfl ?_
        refine ev_iconst i_X10_areAlike_77 lt_i_1 ?_
        refine ev_iadd i_X10_areAlike_78 ?_
        obtain ⟨v79, e79, hf⟩ := ob hf
        refine ev_aI i_X10_areAlike_79 e79 ?_
        obtain ⟨v80, e80, hf⟩ := ob hf
        refine ev_cS_i i_X10_areAlike_80 lk_X10_areAlike_116 [.int x2, .int v70, .int v79] rfl rfl (by decide) (Nat.le_of_ble_eq_true rfl) (by decide) (e_X10_isOfSpan e80) ?_
        refine ev_icmp_ne (tg := 90) i_X10_areAlike_83 (by decide) (fun c83 => ?_) (fun c83 => ?_)
        · rw [if_neg c83] at hf
          refine ev_iconst i_X10_areAlike_90 lt_i_0 ?_
          refine ev_istore_n i_X10_areAlike_91 (by decide) ?_
          refine ev_iinc (y := (x5 + (1 : Int32))) i_X10_areAlike_92 rfl rfl (by decide) ?_
          refine ev_goto (tg := 15) i_X10_areAlike_95 (by decide) ?_
          refine ev_sub (lc2 := [some (.ref a0), some (.int x1), some (.int x2), some (.int (0 : Int32)), some (.int x4), some (.int (x5 + (1 : Int32))), none]) ⟨Or.inr rfl, Or.inr rfl, Or.inr rfl, Or.inr rfl, Or.inr rfl, Or.inr rfl, Or.inl rfl, trivial⟩ ?_
          exact ih (0 : Int32) (x5 + (1 : Int32)) _ hf
        · rw [if_pos c83] at hf
          refine ev_iconst i_X10_areAlike_86 lt_i_1 ?_
          refine ev_goto (tg := 91) i_X10_areAlike_87 (by decide) ?_
          refine ev_istore_n i_X10_areAlike_91 (by decide) ?_
          refine ev_iinc (y := (x5 + (1 : Int32))) i_X10_areAlike_92 rfl rfl (by decide) ?_
          refine ev_goto (tg := 15) i_X10_areAlike_95 (by decide) ?_
          refine ev_sub (lc2 := [some (.ref a0), some (.int x1), some (.int x2), some (.int (1 : Int32)), some (.int x4), some (.int (x5 + (1 : Int32))), none]) ⟨Or.inr rfl, Or.inr rfl, Or.inr rfl, Or.inr rfl, Or.inr rfl, Or.inr rfl, Or.inl rfl, trivial⟩ ?_
          exact ih (1 : Int32) (x5 + (1 : Int32)) _ hf
def f_X10_areAlike_L5 (k104 : Int32 → Option Int32) (h : MH) (a0 : Nat) (x1 : Int32) (x2 : Int32) : Nat → Int32 → Int32 → Option Int32
  | 0, _, _ => none
  | n + 1, x3, x4 => (if (14 : Int32) ≤ x4 then (k104 x3) else (f_X10_areAlike_L15 (fun x3e98 => f_X10_areAlike_L5 k104 h a0 x1 x2 n x3e98 (x4 + (1 : Int32))) h a0 x1 x2 x4 fuel x3 (0 : Int32)))
set_option maxRecDepth 20000 in
theorem l_X10_areAlike_5 {G : GG} {k104 : Int32 → Option Int32} {h : MH} {a0 : Nat} {x1 : Int32} {x2 : Int32} (hk104 : ∀ (x3z : Int32) (r : Int32), k104 x3z = some r → Ev G 1 M_X10_areAlike 104 [none, none, none, some (.int x3z), none, none, none] [] h (some (.int r)) h) : ∀ (n : Nat) (x3 : Int32) (x4 : Int32) (r : Int32), f_X10_areAlike_L5 k104 h a0 x1 x2 n x3 x4 = some r → Ev G 1 M_X10_areAlike 5 [some (.ref a0), some (.int x1), some (.int x2), some (.int x3), some (.int x4), none, none] [] h (some (.int r)) h := by
  intro n
  induction n with
  | zero => intro x3 x4 r hf; rw [f_X10_areAlike_L5] at hf; cases hf
  | succ n ih =>
    intro x3 x4 r hf
    rw [f_X10_areAlike_L5] at hf
    refine ev_iload i_X10_areAlike_5 rfl ?_
    refine ev_bipush i_X10_areAlike_7 lt_b_14 ?_
    refine ev_icmp_ge (tg := 104) i_X10_areAlike_9 (by decide) (fun c9 => ?_) (fun c9 => ?_)
    · rw [if_pos c9] at hf
      refine ev_sub (lc2 := [none, none, none, some (.int x3), none, none, none]) ⟨Or.inl rfl, Or.inl rfl, Or.inl rfl, Or.inr rfl, Or.inl rfl, Or.inr rfl, Or.inr rfl, trivial⟩ ?_
      exact hk104 x3 _ hf
    · rw [if_neg c9] at hf
      refine ev_iconst i_X10_areAlike_12 lt_i_0 ?_
      refine ev_istore i_X10_areAlike_13 (by decide) ?_
      exact l_X10_areAlike_15 (fun x3e98 r hf => by
        refine ev_iinc (y := (x4 + (1 : Int32))) i_X10_areAlike_98 rfl rfl (by decide) ?_
        refine ev_goto (tg := 5) i_X10_areAlike_101 (by decide) ?_
        exact ih x3e98 (x4 + (1 : Int32)) _ hf) fuel x3 (0 : Int32) _ hf
def f_X10_areAlike (h : MH) (a0 : Nat) (x1 : Int32) (x2 : Int32) : Option Int32 := gK h a0 10 (f_X10_areAlike_L5 (fun x3e104 => zR x3e104) h a0 x1 x2 fuel (1 : Int32) (0 : Int32))
set_option maxRecDepth 20000 in
theorem e_X10_areAlike {G : GG} {h : MH} {a0 : Nat} {x1 : Int32} {x2 : Int32} {r : Int32} (hf : f_X10_areAlike h a0 x1 x2 = some r) : Ev G 1 M_X10_areAlike 0 (ent M_X10_areAlike [.ref a0, .int x1, .int x2]) [] h (some (.int r)) h := by
  unfold f_X10_areAlike at hf
  show Ev G 1 M_X10_areAlike 0 [some (.ref a0), some (.int x1), some (.int x2), none, none, none, none] [] h (some (.int r)) h
  obtain ⟨-, hf⟩ := gK_of hf
  refine ev_iconst i_X10_areAlike_0 lt_i_1 ?_
  refine ev_istore_n i_X10_areAlike_1 (by decide) ?_
  refine ev_iconst i_X10_areAlike_2 lt_i_0 ?_
  refine ev_istore i_X10_areAlike_3 (by decide) ?_
  exact l_X10_areAlike_5 (fun x3e104 r hf => by
    refine ev_iload_n i_X10_areAlike_104 rfl ?_
    obtain ⟨hz, rfl⟩ := zR_of hf
    exact ev_zret i_X10_areAlike_105 rfl hz) fuel (1 : Int32) (0 : Int32) _ hf
def f_X10_classMany_L19 (k61 : MH → Option (Int32 × MH)) (a0 : Nat) (x1 : Int32) (x2 : Int32) : Nat → MH → Int32 → Option (Int32 × MH)
  | 0, _, _ => none
  | n + 1, h, x3 => (if x2 ≤ x3 then (k61 h) else ((gR h a0 10 23).bind fun b25 => (aI h b25 x2).bind fun v29 => (if v29 = (-1 : Int32) then ((f_X10_areAlike h a0 x2 x3).bind fun v37 => (if v37 = 0 then (f_X10_classMany_L19 k61 a0 x1 x2 n h (x3 + (1 : Int32))) else ((gR h a0 10 23).bind fun b44 => (gR h a0 10 23).bind fun b49 => (aI h b49 x3).bind fun v53 => (sI h b44 x2 v53).bind fun h54 => f_X10_classMany_L19 k61 a0 x1 x2 n h54 (x3 + (1 : Int32))))) else (k61 h))))
set_option maxRecDepth 20000 in
theorem l_X10_classMany_19 {G : GG} {k61 : MH → Option (Int32 × MH)} {a0 : Nat} {x1 : Int32} {x2 : Int32} (hk61 : ∀ (hz : MH) (r : (Int32 × MH)), k61 hz = some r → Ev G 2 M_X10_classMany 61 [some (.ref a0), some (.int x1), some (.int x2), none] [] hz (some (.int r.1)) r.2) : ∀ (n : Nat) (h : MH) (x3 : Int32) (r : (Int32 × MH)), f_X10_classMany_L19 k61 a0 x1 x2 n h x3 = some r → Ev G 2 M_X10_classMany 19 [some (.ref a0), some (.int x1), some (.int x2), some (.int x3)] [] h (some (.int r.1)) r.2 := by
  intro n
  induction n with
  | zero => intro h x3 r hf; rw [f_X10_classMany_L19] at hf; cases hf
  | succ n ih =>
    intro h x3 r hf
    rw [f_X10_classMany_L19] at hf
    refine ev_iload_n i_X10_classMany_19 rfl ?_
    refine ev_iload_n i_X10_classMany_20 rfl ?_
    refine ev_icmp_ge (tg := 61) i_X10_classMany_21 (by decide) (fun c21 => ?_) (fun c21 => ?_)
    · rw [if_pos c21] at hf
      refine ev_sub (lc2 := [some (.ref a0), some (.int x1), some (.int x2), none]) ⟨Or.inr rfl, Or.inr rfl, Or.inr rfl, Or.inl rfl, trivial⟩ ?_
      exact hk61 h _ hf
    · rw [if_neg c21] at hf
      refine ev_aload_n i_X10_classMany_24 rfl ?_
      obtain ⟨b25, e25, hf⟩ := ob hf
      refine ev_gR i_X10_classMany_25 fl_X10_48 rfl e25 ?_
      refine ev_iload_n i_X10_classMany_28 rfl ?_
      obtain ⟨v29, e29, hf⟩ := ob hf
      refine ev_aI i_X10_classMany_29 e29 ?_
      refine ev_iconst i_X10_classMany_30 lt_i_m1 ?_
      refine ev_icmp_ne (tg := 61) i_X10_classMany_31 (by decide) (fun c31 => ?_) (fun c31 => ?_)
      · rw [if_neg c31] at hf
        refine ev_sub (lc2 := [some (.ref a0), some (.int x1), some (.int x2), none]) ⟨Or.inr rfl, Or.inr rfl, Or.inr rfl, Or.inl rfl, trivial⟩ ?_
        exact hk61 h _ hf
      · rw [if_pos c31] at hf
        refine ev_aload_n i_X10_classMany_34 rfl ?_
        refine ev_iload_n i_X10_classMany_35 rfl ?_
        refine ev_iload_n i_X10_classMany_36 rfl ?_
        obtain ⟨v37, e37, hf⟩ := ob hf
        refine ev_cV_i i_X10_classMany_37 lk_X10_classMany_171 [.int x2, .int x3] rfl rfl (by decide) (gK_of e37).1.1 (gK_of e37).1.2 (Nat.le_of_ble_eq_true rfl) (by decide) (e_X10_areAlike e37) ?_
        refine ev_if_eq (tg := 55) i_X10_classMany_40 (by decide) (fun c40 => ?_) (fun c40 => ?_)
        · rw [if_pos c40] at hf
          refine ev_iinc (y := (x3 + (1 : Int32))) i_X10_classMany_55 rfl rfl (by decide) ?_
          refine ev_goto (tg := 19) i_X10_classMany_58 (by decide) ?_
          exact ih h (x3 + (1 : Int32)) _ hf
        · rw [if_neg c40] at hf
          refine ev_aload_n i_X10_classMany_43 rfl ?_
          obtain ⟨b44, e44, hf⟩ := ob hf
          refine ev_gR i_X10_classMany_44 fl_X10_48 rfl e44 ?_
          refine ev_iload_n i_X10_classMany_47 rfl ?_
          refine ev_aload_n i_X10_classMany_48 rfl ?_
          obtain ⟨b49, e49, hf⟩ := ob hf
          refine ev_gR i_X10_classMany_49 fl_X10_48 rfl e49 ?_
          refine ev_iload_n i_X10_classMany_52 rfl ?_
          obtain ⟨v53, e53, hf⟩ := ob hf
          refine ev_aI i_X10_classMany_53 e53 ?_
          obtain ⟨h54, e54, hf⟩ := ob hf
          refine ev_sI i_X10_classMany_54 e54 ?_
          refine ev_iinc (y := (x3 + (1 : Int32))) i_X10_classMany_55 rfl rfl (by decide) ?_
          refine ev_goto (tg := 19) i_X10_classMany_58 (by decide) ?_
          exact ih h54 (x3 + (1 : Int32)) _ hf
def f_X10_classMany_L4 (k90 : Int32 → MH → Option (Int32 × MH)) (a0 : Nat) : Nat → MH → Int32 → Int32 → Option (Int32 × MH)
  | 0, _, _, _ => none
  | n + 1, h, x1, x2 => (if (16 : Int32) ≤ x2 then (k90 x1 h) else ((gR h a0 10 23).bind fun b11 => (sI h b11 x2 (-1 : Int32)).bind fun h16 => f_X10_classMany_L19 (fun he61 => (gR he61 a0 10 23).bind fun b62 => (aI he61 b62 x2).bind fun v66 => (if v66 = (-1 : Int32) then ((gR he61 a0 10 23).bind fun b75 => (sI he61 b75 x2 x1).bind fun h80 => f_X10_classMany_L4 k90 a0 n h80 (x1 + (1 : Int32)) (x2 + (1 : Int32))) else (f_X10_classMany_L4 k90 a0 n he61 x1 (x2 + (1 : Int32))))) a0 x1 x2 fuel h16 (0 : Int32)))
set_option maxRecDepth 20000 in
theorem l_X10_classMany_4 {G : GG} {k90 : Int32 → MH → Option (Int32 × MH)} {a0 : Nat} (hk90 : ∀ (x1z : Int32) (hz : MH) (r : (Int32 × MH)), k90 x1z hz = some r → Ev G 2 M_X10_classMany 90 [none, some (.int x1z), none, none] [] hz (some (.int r.1)) r.2) : ∀ (n : Nat) (h : MH) (x1 : Int32) (x2 : Int32) (r : (Int32 × MH)), f_X10_classMany_L4 k90 a0 n h x1 x2 = some r → Ev G 2 M_X10_classMany 4 [some (.ref a0), some (.int x1), some (.int x2), none] [] h (some (.int r.1)) r.2 := by
  intro n
  induction n with
  | zero => intro h x1 x2 r hf; rw [f_X10_classMany_L4] at hf; cases hf
  | succ n ih =>
    intro h x1 x2 r hf
    rw [f_X10_classMany_L4] at hf
    refine ev_iload_n i_X10_classMany_4 rfl ?_
    refine ev_bipush i_X10_classMany_5 lt_b_16 ?_
    refine ev_icmp_ge (tg := 90) i_X10_classMany_7 (by decide) (fun c7 => ?_) (fun c7 => ?_)
    · rw [if_pos c7] at hf
      refine ev_sub (lc2 := [none, some (.int x1), none, none]) ⟨Or.inl rfl, Or.inr rfl, Or.inl rfl, Or.inr rfl, trivial⟩ ?_
      exact hk90 x1 h _ hf
    · rw [if_neg c7] at hf
      refine ev_aload_n i_X10_classMany_10 rfl ?_
      obtain ⟨b11, e11, hf⟩ := ob hf
      refine ev_gR i_X10_classMany_11 fl_X10_48 rfl e11 ?_
      refine ev_iload_n i_X10_classMany_14 rfl ?_
      refine ev_iconst i_X10_classMany_15 lt_i_m1 ?_
      obtain ⟨h16, e16, hf⟩ := ob hf
      refine ev_sI i_X10_classMany_16 e16 ?_
      refine ev_iconst i_X10_classMany_17 lt_i_0 ?_
      refine ev_istore_n i_X10_classMany_18 (by decide) ?_
      exact l_X10_classMany_19 (fun he61 r hf => by
        refine ev_aload_n i_X10_classMany_61 rfl ?_
        obtain ⟨b62, e62, hf⟩ := ob hf
        refine ev_gR i_X10_classMany_62 fl_X10_48 rfl e62 ?_
        refine ev_iload_n i_X10_classMany_65 rfl ?_
        obtain ⟨v66, e66, hf⟩ := ob hf
        refine ev_aI i_X10_classMany_66 e66 ?_
        refine ev_iconst i_X10_classMany_67 lt_i_m1 ?_
        refine ev_icmp_eq (tg := 74) i_X10_classMany_68 (by decide) (fun c68 => ?_) (fun c68 => ?_)
        · rw [if_pos c68] at hf
          refine ev_aload_n i_X10_classMany_74 rfl ?_
          obtain ⟨b75, e75, hf⟩ := ob hf
          refine ev_gR i_X10_classMany_75 fl_X10_48 rfl e75 ?_
          refine ev_iload_n i_X10_classMany_78 rfl ?_
          refine ev_iload_n i_X10_classMany_79 rfl ?_
          obtain ⟨h80, e80, hf⟩ := ob hf
          refine ev_sI i_X10_classMany_80 e80 ?_
          refine ev_iinc (y := (x1 + (1 : Int32))) i_X10_classMany_81 rfl rfl (by decide) ?_
          refine ev_iinc (y := (x2 + (1 : Int32))) i_X10_classMany_84 rfl rfl (by decide) ?_
          refine ev_goto (tg := 4) i_X10_classMany_87 (by decide) ?_
          exact ih h80 (x1 + (1 : Int32)) (x2 + (1 : Int32)) _ hf
        · rw [if_neg c68] at hf
          refine ev_goto (tg := 84) i_X10_classMany_71 (by decide) ?_
          refine ev_iinc (y := (x2 + (1 : Int32))) i_X10_classMany_84 rfl rfl (by decide) ?_
          refine ev_goto (tg := 4) i_X10_classMany_87 (by decide) ?_
          exact ih he61 x1 (x2 + (1 : Int32)) _ hf) fuel h16 (0 : Int32) _ hf
def f_X10_classMany (h : MH) (a0 : Nat) : Option (Int32 × MH) := gK h a0 10 (f_X10_classMany_L4 (fun x1e90 he90 => some (x1e90, he90)) a0 fuel h (0 : Int32) (0 : Int32))
set_option maxRecDepth 20000 in
theorem e_X10_classMany {G : GG} {h : MH} {a0 : Nat} {r : (Int32 × MH)} (hf : f_X10_classMany h a0 = some r) : Ev G 2 M_X10_classMany 0 (ent M_X10_classMany [.ref a0]) [] h (some (.int r.1)) r.2 := by
  unfold f_X10_classMany at hf
  show Ev G 2 M_X10_classMany 0 [some (.ref a0), none, none, none] [] h (some (.int r.1)) r.2
  obtain ⟨-, hf⟩ := gK_of hf
  refine ev_iconst i_X10_classMany_0 lt_i_0 ?_
  refine ev_istore_n i_X10_classMany_1 (by decide) ?_
  refine ev_iconst i_X10_classMany_2 lt_i_0 ?_
  refine ev_istore_n i_X10_classMany_3 (by decide) ?_
  exact l_X10_classMany_4 (fun x1e90 he90 r hf => by
    refine ev_iload_n i_X10_classMany_90 rfl ?_
    cases hf
    exact ev_iiret i_X10_classMany_91 rfl) fuel h (0 : Int32) (0 : Int32) _ hf
def f_X10_ofClass (h : MH) (a0 : Nat) (x1 : Int32) : Option (Int32 × MH) := gK h a0 10 ((f_X10_isIn h x1 (0 : Int32) (15 : Int32)).bind fun v4 => (if v4 = 0 then (some ((-1 : Int32), h)) else ((f_X10_classMany h a0).bind fun r13 => (if r13.1 ≤ 0 then (some ((-1 : Int32), r13.2)) else ((gR r13.2 a0 10 23).bind fun b22 => (aI r13.2 b22 x1).bind fun v26 => some (v26, r13.2))))))
set_option maxRecDepth 20000 in
theorem e_X10_ofClass {G : GG} {h : MH} {a0 : Nat} {x1 : Int32} {r : (Int32 × MH)} (hf : f_X10_ofClass h a0 x1 = some r) : Ev G 3 M_X10_ofClass 0 (ent M_X10_ofClass [.ref a0, .int x1]) [] h (some (.int r.1)) r.2 := by
  unfold f_X10_ofClass at hf
  show Ev G 3 M_X10_ofClass 0 [some (.ref a0), some (.int x1), none] [] h (some (.int r.1)) r.2
  obtain ⟨-, hf⟩ := gK_of hf
  refine ev_iload_n i_X10_ofClass_0 rfl ?_
  refine ev_iconst i_X10_ofClass_1 lt_i_0 ?_
  refine ev_bipush i_X10_ofClass_2 lt_b_15 ?_
  obtain ⟨v4, e4, hf⟩ := ob hf
  refine ev_cS_i i_X10_ofClass_4 lk_X10_ofClass_94 [.int x1, .int (0 : Int32), .int (15 : Int32)] rfl rfl (by decide) (Nat.le_of_ble_eq_true rfl) (by decide) (e_X10_isIn e4) ?_
  refine ev_if_ne (tg := 12) i_X10_ofClass_7 (by decide) (fun c7 => ?_) (fun c7 => ?_)
  · rw [if_neg c7] at hf
    refine ev_aload_n i_X10_ofClass_12 rfl ?_
    obtain ⟨r13, e13, hf⟩ := ob hf
    refine ev_cV_i i_X10_ofClass_13 lk_X10_ofClass_174 [] rfl rfl (by decide) (gK_of e13).1.1 (gK_of e13).1.2 (Nat.le_of_ble_eq_true rfl) (by decide) (e_X10_classMany e13) ?_
    refine ev_istore_n i_X10_ofClass_16 (by decide) ?_
    refine ev_iload_n i_X10_ofClass_17 rfl ?_
    refine ev_if_le (tg := 30) i_X10_ofClass_18 (by decide) (fun c18 => ?_) (fun c18 => ?_)
    · rw [if_pos c18] at hf
      refine ev_iconst i_X10_ofClass_30 lt_i_m1 ?_
      cases hf
      exact ev_iiret i_X10_ofClass_31 rfl
    · rw [if_neg c18] at hf
      refine ev_aload_n i_X10_ofClass_21 rfl ?_
      obtain ⟨b22, e22, hf⟩ := ob hf
      refine ev_gR i_X10_ofClass_22 fl_X10_48 rfl e22 ?_
      refine ev_iload_n i_X10_ofClass_25 rfl ?_
      obtain ⟨v26, e26, hf⟩ := ob hf
      refine ev_aI i_X10_ofClass_26 e26 ?_
      refine ev_goto (tg := 31) i_X10_ofClass_27 (by decide) ?_
      cases hf
      exact ev_iiret i_X10_ofClass_31 rfl
  · rw [if_pos c7] at hf
    refine ev_iconst i_X10_ofClass_10 lt_i_m1 ?_
    cases hf
    exact ev_iiret i_X10_ofClass_11 rfl
def f_X10_planned_L4 (k24 : Int32 → Option Int32) (h : MH) (a0 : Nat) (x1 : Int32) : Nat → Int32 → Int32 → Option Int32
  | 0, _, _ => none
  | n + 1, x2, x3 => (if x1 ≤ x3 then (k24 x2) else ((gR h a0 10 25).bind fun b11 => (aI h b11 x3).bind fun v15 => f_X10_planned_L4 k24 h a0 x1 n (x2 ||| v15) (x3 + (1 : Int32))))
set_option maxRecDepth 20000 in
theorem l_X10_planned_4 {G : GG} {k24 : Int32 → Option Int32} {h : MH} {a0 : Nat} {x1 : Int32} (hk24 : ∀ (x2z : Int32) (r : Int32), k24 x2z = some r → Ev G 0 M_X10_planned 24 [none, none, some (.int x2z), none] [] h (some (.int r)) h) : ∀ (n : Nat) (x2 : Int32) (x3 : Int32) (r : Int32), f_X10_planned_L4 k24 h a0 x1 n x2 x3 = some r → Ev G 0 M_X10_planned 4 [some (.ref a0), some (.int x1), some (.int x2), some (.int x3)] [] h (some (.int r)) h := by
  intro n
  induction n with
  | zero => intro x2 x3 r hf; rw [f_X10_planned_L4] at hf; cases hf
  | succ n ih =>
    intro x2 x3 r hf
    rw [f_X10_planned_L4] at hf
    refine ev_iload_n i_X10_planned_4 rfl ?_
    refine ev_iload_n i_X10_planned_5 rfl ?_
    refine ev_icmp_ge (tg := 24) i_X10_planned_6 (by decide) (fun c6 => ?_) (fun c6 => ?_)
    · rw [if_pos c6] at hf
      refine ev_sub (lc2 := [none, none, some (.int x2), none]) ⟨Or.inl rfl, Or.inl rfl, Or.inr rfl, Or.inl rfl, trivial⟩ ?_
      exact hk24 x2 _ hf
    · rw [if_neg c6] at hf
      refine ev_iload_n i_X10_planned_9 rfl ?_
      refine ev_aload_n i_X10_planned_10 rfl ?_
      obtain ⟨b11, e11, hf⟩ := ob hf
      refine ev_gR i_X10_planned_11 fl_X10_51 rfl e11 ?_
      refine ev_iload_n i_X10_planned_14 rfl ?_
      obtain ⟨v15, e15, hf⟩ := ob hf
      refine ev_aI i_X10_planned_15 e15 ?_
      refine ev_ior i_X10_planned_16 ?_
      refine ev_istore_n i_X10_planned_17 (by decide) ?_
      refine ev_iinc (y := (x3 + (1 : Int32))) i_X10_planned_18 rfl rfl (by decide) ?_
      refine ev_goto (tg := 4) i_X10_planned_21 (by decide) ?_
      exact ih (x2 ||| v15) (x3 + (1 : Int32)) _ hf
def f_X10_planned (h : MH) (a0 : Nat) (x1 : Int32) : Option Int32 := gK h a0 10 (f_X10_planned_L4 (fun x2e24 => some x2e24) h a0 x1 fuel (0 : Int32) (0 : Int32))
set_option maxRecDepth 20000 in
theorem e_X10_planned {G : GG} {h : MH} {a0 : Nat} {x1 : Int32} {r : Int32} (hf : f_X10_planned h a0 x1 = some r) : Ev G 0 M_X10_planned 0 (ent M_X10_planned [.ref a0, .int x1]) [] h (some (.int r)) h := by
  unfold f_X10_planned at hf
  show Ev G 0 M_X10_planned 0 [some (.ref a0), some (.int x1), none, none] [] h (some (.int r)) h
  obtain ⟨-, hf⟩ := gK_of hf
  refine ev_iconst i_X10_planned_0 lt_i_0 ?_
  refine ev_istore_n i_X10_planned_1 (by decide) ?_
  refine ev_iconst i_X10_planned_2 lt_i_0 ?_
  refine ev_istore_n i_X10_planned_3 (by decide) ?_
  exact l_X10_planned_4 (fun x2e24 r hf => by
    refine ev_iload_n i_X10_planned_24 rfl ?_
    cases hf
    exact ev_iiret i_X10_planned_25 rfl) fuel (0 : Int32) (0 : Int32) _ hf
def f_X10_look_L68 (k98 : Int32 → Option (Int32 × MH)) (h : MH) (a0 : Nat) : Nat → Int32 → Int32 → Option (Int32 × MH)
  | 0, _, _ => none
  | n + 1, x2, x3 => (if (28 : Int32) ≤ x3 then (k98 x2) else ((gR h a0 10 3).bind fun b76 => (aI h b76 x3).bind fun v80 => (if v80 = (1 : Int32) then (f_X10_look_L68 k98 h a0 n (x2 + (1 : Int32)) (x3 + (1 : Int32))) else (f_X10_look_L68 k98 h a0 n (x2 + (0 : Int32)) (x3 + (1 : Int32))))))
set_option maxRecDepth 20000 in
theorem l_X10_look_68 {G : GG} {k98 : Int32 → Option (Int32 × MH)} {h : MH} {a0 : Nat} (hk98 : ∀ (x2z : Int32) (r : (Int32 × MH)), k98 x2z = some r → Ev G 10 M_X10_look 98 [none, none, some (.int x2z), none] [] h (some (.int r.1)) r.2) : ∀ (n : Nat) (x2 : Int32) (x3 : Int32) (r : (Int32 × MH)), f_X10_look_L68 k98 h a0 n x2 x3 = some r → Ev G 10 M_X10_look 68 [some (.ref a0), none, some (.int x2), some (.int x3)] [] h (some (.int r.1)) r.2 := by
  intro n
  induction n with
  | zero => intro x2 x3 r hf; rw [f_X10_look_L68] at hf; cases hf
  | succ n ih =>
    intro x2 x3 r hf
    rw [f_X10_look_L68] at hf
    refine ev_iload_n i_X10_look_68 rfl ?_
    refine ev_bipush i_X10_look_69 lt_b_28 ?_
    refine ev_icmp_ge (tg := 98) i_X10_look_71 (by decide) (fun c71 => ?_) (fun c71 => ?_)
    · rw [if_pos c71] at hf
      refine ev_sub (lc2 := [none, none, some (.int x2), none]) ⟨Or.inl rfl, Or.inr rfl, Or.inr rfl, Or.inl rfl, trivial⟩ ?_
      exact hk98 x2 _ hf
    · rw [if_neg c71] at hf
      refine ev_iload_n i_X10_look_74 rfl ?_
      refine ev_aload_n i_X10_look_75 rfl ?_
      obtain ⟨b76, e76, hf⟩ := ob hf
      refine ev_gR i_X10_look_76 fl_X10_7 rfl e76 ?_
      refine ev_iload_n i_X10_look_79 rfl ?_
      obtain ⟨v80, e80, hf⟩ := ob hf
      refine ev_aI i_X10_look_80 e80 ?_
      refine ev_iconst i_X10_look_81 lt_i_1 ?_
      refine ev_icmp_ne (tg := 89) i_X10_look_82 (by decide) (fun c82 => ?_) (fun c82 => ?_)
      · rw [if_neg c82] at hf
        refine ev_iconst i_X10_look_89 lt_i_0 ?_
        refine ev_iadd i_X10_look_90 ?_
        refine ev_istore_n i_X10_look_91 (by decide) ?_
        refine ev_iinc (y := (x3 + (1 : Int32))) i_X10_look_92 rfl rfl (by decide) ?_
        refine ev_goto (tg := 68) i_X10_look_95 (by decide) ?_
        exact ih (x2 + (0 : Int32)) (x3 + (1 : Int32)) _ hf
      · rw [if_pos c82] at hf
        refine ev_iconst i_X10_look_85 lt_i_1 ?_
        refine ev_goto (tg := 90) i_X10_look_86 (by decide) ?_
        refine ev_iadd i_X10_look_90 ?_
        refine ev_istore_n i_X10_look_91 (by decide) ?_
        refine ev_iinc (y := (x3 + (1 : Int32))) i_X10_look_92 rfl rfl (by decide) ?_
        refine ev_goto (tg := 68) i_X10_look_95 (by decide) ?_
        exact ih (x2 + (1 : Int32)) (x3 + (1 : Int32)) _ hf
def f_X10_look_L104 (k125 : Int32 → Option (Int32 × MH)) (h : MH) (a0 : Nat) : Nat → Int32 → Int32 → Option (Int32 × MH)
  | 0, _, _ => none
  | n + 1, x2, x3 => (if (14 : Int32) ≤ x3 then (k125 x2) else ((gR h a0 10 6).bind fun b112 => (aI h b112 x3).bind fun v116 => f_X10_look_L104 k125 h a0 n (x2 + v116) (x3 + (1 : Int32))))
set_option maxRecDepth 20000 in
theorem l_X10_look_104 {G : GG} {k125 : Int32 → Option (Int32 × MH)} {h : MH} {a0 : Nat} (hk125 : ∀ (x2z : Int32) (r : (Int32 × MH)), k125 x2z = some r → Ev G 10 M_X10_look 125 [none, none, some (.int x2z), none] [] h (some (.int r.1)) r.2) : ∀ (n : Nat) (x2 : Int32) (x3 : Int32) (r : (Int32 × MH)), f_X10_look_L104 k125 h a0 n x2 x3 = some r → Ev G 10 M_X10_look 104 [some (.ref a0), none, some (.int x2), some (.int x3)] [] h (some (.int r.1)) r.2 := by
  intro n
  induction n with
  | zero => intro x2 x3 r hf; rw [f_X10_look_L104] at hf; cases hf
  | succ n ih =>
    intro x2 x3 r hf
    rw [f_X10_look_L104] at hf
    refine ev_iload_n i_X10_look_104 rfl ?_
    refine ev_bipush i_X10_look_105 lt_b_14 ?_
    refine ev_icmp_ge (tg := 125) i_X10_look_107 (by decide) (fun c107 => ?_) (fun c107 => ?_)
    · rw [if_pos c107] at hf
      refine ev_sub (lc2 := [none, none, some (.int x2), none]) ⟨Or.inl rfl, Or.inr rfl, Or.inr rfl, Or.inl rfl, trivial⟩ ?_
      exact hk125 x2 _ hf
    · rw [if_neg c107] at hf
      refine ev_iload_n i_X10_look_110 rfl ?_
      refine ev_aload_n i_X10_look_111 rfl ?_
      obtain ⟨b112, e112, hf⟩ := ob hf
      refine ev_gR i_X10_look_112 fl_X10_19 rfl e112 ?_
      refine ev_iload_n i_X10_look_115 rfl ?_
      obtain ⟨v116, e116, hf⟩ := ob hf
      refine ev_aI i_X10_look_116 e116 ?_
      refine ev_iadd i_X10_look_117 ?_
      refine ev_istore_n i_X10_look_118 (by decide) ?_
      refine ev_iinc (y := (x3 + (1 : Int32))) i_X10_look_119 rfl rfl (by decide) ?_
      refine ev_goto (tg := 104) i_X10_look_122 (by decide) ?_
      exact ih (x2 + v116) (x3 + (1 : Int32)) _ hf
def f_X10_look_L148 (k190 : Int32 → Option (Int32 × MH)) (h : MH) (a0 : Nat) : Nat → Int32 → Int32 → Option (Int32 × MH)
  | 0, _, _ => none
  | n + 1, x2, x3 => (f_X10_all h a0).bind fun v150 => (if v150 < x3 then (k190 x2) else ((f_X10_unlike h a0).bind fun v159 => (if (x3 &&& (v159 ^^^ (-1 : Int32))) = 0 then ((gR h a0 10 22).bind fun b169 => (aZ h b169 x3).bind fun v173 => (if v173 = 0 then (f_X10_look_L148 k190 h a0 n (x2 + (0 : Int32)) (x3 + (1 : Int32))) else (f_X10_look_L148 k190 h a0 n (x2 + (1 : Int32)) (x3 + (1 : Int32))))) else (f_X10_look_L148 k190 h a0 n (x2 + (0 : Int32)) (x3 + (1 : Int32))))))
set_option maxRecDepth 20000 in
theorem l_X10_look_148 {G : GG} {k190 : Int32 → Option (Int32 × MH)} {h : MH} {a0 : Nat} (hk190 : ∀ (x2z : Int32) (r : (Int32 × MH)), k190 x2z = some r → Ev G 10 M_X10_look 190 [none, none, some (.int x2z), none] [] h (some (.int r.1)) r.2) : ∀ (n : Nat) (x2 : Int32) (x3 : Int32) (r : (Int32 × MH)), f_X10_look_L148 k190 h a0 n x2 x3 = some r → Ev G 10 M_X10_look 148 [some (.ref a0), none, some (.int x2), some (.int x3)] [] h (some (.int r.1)) r.2 := by
  intro n
  induction n with
  | zero => intro x2 x3 r hf; rw [f_X10_look_L148] at hf; cases hf
  | succ n ih =>
    intro x2 x3 r hf
    rw [f_X10_look_L148] at hf
    refine ev_iload_n i_X10_look_148 rfl ?_
    refine ev_aload_n i_X10_look_149 rfl ?_
    obtain ⟨v150, e150, hf⟩ := ob hf
    refine ev_cV_i i_X10_look_150 lk_X10_look_131 [] rfl rfl (by decide) (gK_of e150).1.1 (gK_of e150).1.2 (Nat.le_of_ble_eq_true rfl) (by decide) (e_X10_all e150) ?_
    refine ev_icmp_gt (tg := 190) i_X10_look_153 (by decide) (fun c153 => ?_) (fun c153 => ?_)
    · rw [if_pos c153] at hf
      refine ev_sub (lc2 := [none, none, some (.int x2), none]) ⟨Or.inl rfl, Or.inr rfl, Or.inr rfl, Or.inl rfl, trivial⟩ ?_
      exact hk190 x2 _ hf
    · rw [if_neg c153] at hf
      refine ev_iload_n i_X10_look_156 rfl ?_
      refine ev_iload_n i_X10_look_157 rfl ?_
      refine ev_aload_n i_X10_look_158 rfl ?_
      obtain ⟨v159, e159, hf⟩ := ob hf
      refine ev_cV_i i_X10_look_159 lk_X10_look_177 [] rfl rfl (by decide) (gK_of e159).1.1 (gK_of e159).1.2 (Nat.le_of_ble_eq_true rfl) (by decide) (e_X10_unlike e159) ?_
      refine ev_iconst i_X10_look_162 lt_i_m1 ?_
      refine ev_ixor i_X10_look_163 ?_
      refine ev_iand i_X10_look_164 ?_
      refine ev_if_ne (tg := 181) i_X10_look_165 (by decide) (fun c165 => ?_) (fun c165 => ?_)
      · rw [if_neg c165] at hf
        refine ev_iconst i_X10_look_181 lt_i_0 ?_
        refine ev_iadd i_X10_look_182 ?_
        refine ev_istore_n i_X10_look_183 (by decide) ?_
        refine ev_iinc (y := (x3 + (1 : Int32))) i_X10_look_184 rfl rfl (by decide) ?_
        refine ev_goto (tg := 148) i_X10_look_187 (by decide) ?_
        exact ih (x2 + (0 : Int32)) (x3 + (1 : Int32)) _ hf
      · rw [if_pos c165] at hf
        refine ev_aload_n i_X10_look_168 rfl ?_
        obtain ⟨b169, e169, hf⟩ := ob hf
        refine ev_gR i_X10_look_169 fl_X10_44 rfl e169 ?_
        refine ev_iload_n i_X10_look_172 rfl ?_
        obtain ⟨v173, e173, hf⟩ := ob hf
        refine ev_aZ i_X10_look_173 e173 ?_
        refine ev_if_eq (tg := 181) i_X10_look_174 (by decide) (fun c174 => ?_) (fun c174 => ?_)
        · rw [if_pos c174] at hf
          refine ev_iconst i_X10_look_181 lt_i_0 ?_
          refine ev_iadd i_X10_look_182 ?_
          refine ev_istore_n i_X10_look_183 (by decide) ?_
          refine ev_iinc (y := (x3 + (1 : Int32))) i_X10_look_184 rfl rfl (by decide) ?_
          refine ev_goto (tg := 148) i_X10_look_187 (by decide) ?_
          exact ih (x2 + (0 : Int32)) (x3 + (1 : Int32)) _ hf
        · rw [if_neg c174] at hf
          refine ev_iconst i_X10_look_177 lt_i_1 ?_
          refine ev_goto (tg := 182) i_X10_look_178 (by decide) ?_
          refine ev_iadd i_X10_look_182 ?_
          refine ev_istore_n i_X10_look_183 (by decide) ?_
          refine ev_iinc (y := (x3 + (1 : Int32))) i_X10_look_184 rfl rfl (by decide) ?_
          refine ev_goto (tg := 148) i_X10_look_187 (by decide) ?_
          exact ih (x2 + (1 : Int32)) (x3 + (1 : Int32)) _ hf
def f_X10_look (h : MH) (a0 : Nat) (x1 : Int32) : Option (Int32 × MH) := gK h a0 10 ((if x1 = 0 then ((gI h a0 10 0).bind fun v57 => some (v57, h)) else (if x1 = 1 then ((gI h a0 10 1).bind fun v62 => some (v62, h)) else (if x1 = 2 then (f_X10_look_L68 (fun x2e98 => some ((x2e98 / (2 : Int32)), h)) h a0 fuel (0 : Int32) (0 : Int32)) else (if x1 = 3 then (f_X10_look_L104 (fun x2e125 => some (x2e125, h)) h a0 fuel (0 : Int32) (0 : Int32)) else (if x1 = 4 then ((gI h a0 10 2).bind fun v128 => some (v128, h)) else (if x1 = 5 then ((f_X10_unlike h a0).bind fun v133 => some (v133, h)) else (if x1 = 6 then ((f_X10_classMany h a0).bind fun r138 => some (r138.1, r138.2)) else (if x1 = 7 then ((f_X10_learn h a0).bind fun h143 => f_X10_look_L148 (fun x2e190 => some (x2e190, h143)) h143 a0 fuel (0 : Int32) (0 : Int32)) else (if x1 = 8 then ((gI h a0 10 24).bind fun v193 => some (v193, h)) else (if x1 = 9 then ((gI h a0 10 24).bind fun v199 => (f_X10_planned h a0 v199).bind fun v202 => (f_X10_unlike h a0).bind fun v206 => (if v202 = v206 then (some ((1 : Int32), h)) else (some ((0 : Int32), h)))) else (some ((-1 : Int32), h)))))))))))))
set_option maxRecDepth 20000 in
theorem e_X10_look {G : GG} {h : MH} {a0 : Nat} {x1 : Int32} {r : (Int32 × MH)} (hf : f_X10_look h a0 x1 = some r) : Ev G 10 M_X10_look 0 (ent M_X10_look [.ref a0, .int x1]) [] h (some (.int r.1)) r.2 := by
  unfold f_X10_look at hf
  show Ev G 10 M_X10_look 0 [some (.ref a0), some (.int x1), none, none] [] h (some (.int r.1)) r.2
  obtain ⟨-, hf⟩ := gK_of hf
  refine ev_iconst i_X10_look_0 lt_i_0 ?_
  refine ev_istore_n i_X10_look_1 (by decide) ?_
  refine ev_iload_n i_X10_look_2 rfl ?_
  by_cases c3_0 : x1 = 0
  · rw [if_pos c3_0] at hf
    refine ev_ts (tg := 56) 0 53 i_X10_look_3 c3_0 (by decide) ?_
    refine ev_aload_n i_X10_look_56 rfl ?_
    obtain ⟨v57, e57, hf⟩ := ob hf
    refine ev_gI i_X10_look_57 fl_X10_82 rfl e57 ?_
    cases hf
    exact ev_iiret i_X10_look_60 rfl
  rw [if_neg c3_0] at hf
  by_cases c3_1 : x1 = 1
  · rw [if_pos c3_1] at hf
    refine ev_ts (tg := 61) 1 58 i_X10_look_3 c3_1 (by decide) ?_
    refine ev_aload_n i_X10_look_61 rfl ?_
    obtain ⟨v62, e62, hf⟩ := ob hf
    refine ev_gI i_X10_look_62 fl_X10_85 rfl e62 ?_
    cases hf
    exact ev_iiret i_X10_look_65 rfl
  rw [if_neg c3_1] at hf
  by_cases c3_2 : x1 = 2
  · rw [if_pos c3_2] at hf
    refine ev_ts (tg := 66) 2 63 i_X10_look_3 c3_2 (by decide) ?_
    refine ev_iconst i_X10_look_66 lt_i_0 ?_
    refine ev_istore_n i_X10_look_67 (by decide) ?_
    refine ev_sub (lc2 := [some (.ref a0), none, some (.int (0 : Int32)), some (.int (0 : Int32))]) ⟨Or.inr rfl, Or.inl rfl, Or.inr rfl, Or.inr rfl, trivial⟩ ?_
    exact l_X10_look_68 (fun x2e98 r hf => by
      refine ev_iload_n i_X10_look_98 rfl ?_
      refine ev_iconst i_X10_look_99 lt_i_2 ?_
      refine ev_idiv i_X10_look_100 (by decide) ?_
      cases hf
      exact ev_iiret i_X10_look_101 rfl) fuel (0 : Int32) (0 : Int32) _ hf
  rw [if_neg c3_2] at hf
  by_cases c3_3 : x1 = 3
  · rw [if_pos c3_3] at hf
    refine ev_ts (tg := 102) 3 99 i_X10_look_3 c3_3 (by decide) ?_
    refine ev_iconst i_X10_look_102 lt_i_0 ?_
    refine ev_istore_n i_X10_look_103 (by decide) ?_
    refine ev_sub (lc2 := [some (.ref a0), none, some (.int (0 : Int32)), some (.int (0 : Int32))]) ⟨Or.inr rfl, Or.inl rfl, Or.inr rfl, Or.inr rfl, trivial⟩ ?_
    exact l_X10_look_104 (fun x2e125 r hf => by
      refine ev_iload_n i_X10_look_125 rfl ?_
      cases hf
      exact ev_iiret i_X10_look_126 rfl) fuel (0 : Int32) (0 : Int32) _ hf
  rw [if_neg c3_3] at hf
  by_cases c3_4 : x1 = 4
  · rw [if_pos c3_4] at hf
    refine ev_ts (tg := 127) 4 124 i_X10_look_3 c3_4 (by decide) ?_
    refine ev_aload_n i_X10_look_127 rfl ?_
    obtain ⟨v128, e128, hf⟩ := ob hf
    refine ev_gI i_X10_look_128 fl_X10_88 rfl e128 ?_
    cases hf
    exact ev_iiret i_X10_look_131 rfl
  rw [if_neg c3_4] at hf
  by_cases c3_5 : x1 = 5
  · rw [if_pos c3_5] at hf
    refine ev_ts (tg := 132) 5 129 i_X10_look_3 c3_5 (by decide) ?_
    refine ev_aload_n i_X10_look_132 rfl ?_
    obtain ⟨v133, e133, hf⟩ := ob hf
    refine ev_cV_i i_X10_look_133 lk_X10_look_177 [] rfl rfl (by decide) (gK_of e133).1.1 (gK_of e133).1.2 (Nat.le_of_ble_eq_true rfl) (by decide) (e_X10_unlike e133) ?_
    cases hf
    exact ev_iiret i_X10_look_136 rfl
  rw [if_neg c3_5] at hf
  by_cases c3_6 : x1 = 6
  · rw [if_pos c3_6] at hf
    refine ev_ts (tg := 137) 6 134 i_X10_look_3 c3_6 (by decide) ?_
    refine ev_aload_n i_X10_look_137 rfl ?_
    obtain ⟨r138, e138, hf⟩ := ob hf
    refine ev_cV_i i_X10_look_138 lk_X10_look_174 [] rfl rfl (by decide) (gK_of e138).1.1 (gK_of e138).1.2 (Nat.le_of_ble_eq_true rfl) (by decide) (e_X10_classMany e138) ?_
    cases hf
    exact ev_iiret i_X10_look_141 rfl
  rw [if_neg c3_6] at hf
  by_cases c3_7 : x1 = 7
  · rw [if_pos c3_7] at hf
    refine ev_ts (tg := 142) 7 139 i_X10_look_3 c3_7 (by decide) ?_
    refine ev_aload_n i_X10_look_142 rfl ?_
    obtain ⟨h143, e143, hf⟩ := ob hf
    refine ev_cV_v i_X10_look_143 lk_X10_look_180 [] rfl rfl (by decide) (gK_of e143).1.1 (gK_of e143).1.2 (Nat.le_of_ble_eq_true rfl) (by decide) (e_X10_learn e143) ?_
    refine ev_iconst i_X10_look_146 lt_i_0 ?_
    refine ev_istore_n i_X10_look_147 (by decide) ?_
    refine ev_sub (lc2 := [some (.ref a0), none, some (.int (0 : Int32)), some (.int (0 : Int32))]) ⟨Or.inr rfl, Or.inl rfl, Or.inr rfl, Or.inr rfl, trivial⟩ ?_
    exact l_X10_look_148 (fun x2e190 r hf => by
      refine ev_iload_n i_X10_look_190 rfl ?_
      cases hf
      exact ev_iiret i_X10_look_191 rfl) fuel (0 : Int32) (0 : Int32) _ hf
  rw [if_neg c3_7] at hf
  by_cases c3_8 : x1 = 8
  · rw [if_pos c3_8] at hf
    refine ev_ts (tg := 192) 8 189 i_X10_look_3 c3_8 (by decide) ?_
    refine ev_aload_n i_X10_look_192 rfl ?_
    obtain ⟨v193, e193, hf⟩ := ob hf
    refine ev_gI i_X10_look_193 fl_X10_162 rfl e193 ?_
    cases hf
    exact ev_iiret i_X10_look_196 rfl
  rw [if_neg c3_8] at hf
  by_cases c3_9 : x1 = 9
  · rw [if_pos c3_9] at hf
    refine ev_ts (tg := 197) 9 194 i_X10_look_3 c3_9 (by decide) ?_
    refine ev_aload_n i_X10_look_197 rfl ?_
    refine ev_aload_n i_X10_look_198 rfl ?_
    obtain ⟨v199, e199, hf⟩ := ob hf
    refine ev_gI i_X10_look_199 fl_X10_162 rfl e199 ?_
    obtain ⟨v202, e202, hf⟩ := ob hf
    refine ev_cV_i i_X10_look_202 lk_X10_look_183 [.int v199] rfl rfl (by decide) (gK_of e202).1.1 (gK_of e202).1.2 (Nat.le_of_ble_eq_true rfl) (by decide) (e_X10_planned e202) ?_
    refine ev_aload_n i_X10_look_205 rfl ?_
    obtain ⟨v206, e206, hf⟩ := ob hf
    refine ev_cV_i i_X10_look_206 lk_X10_look_177 [] rfl rfl (by decide) (gK_of e206).1.1 (gK_of e206).1.2 (Nat.le_of_ble_eq_true rfl) (by decide) (e_X10_unlike e206) ?_
    refine ev_icmp_ne (tg := 216) i_X10_look_209 (by decide) (fun c209 => ?_) (fun c209 => ?_)
    · rw [if_neg c209] at hf
      refine ev_iconst i_X10_look_216 lt_i_0 ?_
      cases hf
      exact ev_iiret i_X10_look_217 rfl
    · rw [if_pos c209] at hf
      refine ev_iconst i_X10_look_212 lt_i_1 ?_
      refine ev_goto (tg := 217) i_X10_look_213 (by decide) ?_
      cases hf
      exact ev_iiret i_X10_look_217 rfl
  rw [if_neg c3_9] at hf
  refine ev_tsOut (tg := 218) i_X10_look_3 (ts_out (n := 9) (by decide) (fun k hk => by rcases (show k = 0 ∨ k = 1 ∨ k = 2 ∨ k = 3 ∨ k = 4 ∨ k = 5 ∨ k = 6 ∨ k = 7 ∨ k = 8 ∨ k = 9 by omega) with rfl | rfl | rfl | rfl | rfl | rfl | rfl | rfl | rfl | rfl <;> assumption)) (by decide) ?_
  refine ev_iconst i_X10_look_218 lt_i_m1 ?_
  cases hf
  exact ev_iiret i_X10_look_219 rfl
def f_X10_against_L6 (k48 : Option (Int32 × MH)) (h : MH) (a0 : Nat) (x1 : Int32) (x2 : Int32) : Nat → Int32 → Option (Int32 × MH)
  | 0, _ => none
  | n + 1, x3 => (f_X10_all h a0).bind fun v8 => (if v8 < x3 then (k48 ) else ((if (x3 &&& x1) = x1 then ((if (x3 &&& ((x1 ||| x2) ^^^ (-1 : Int32))) = 0 then ((gR h a0 10 22).bind fun b32 => (aZ h b32 x3).bind fun v36 => (if v36 = 0 then (some (x3, h)) else (f_X10_against_L6 k48 h a0 x1 x2 n (x3 + (1 : Int32))))) else (f_X10_against_L6 k48 h a0 x1 x2 n (x3 + (1 : Int32))))) else (f_X10_against_L6 k48 h a0 x1 x2 n (x3 + (1 : Int32))))))
set_option maxRecDepth 20000 in
theorem l_X10_against_6 {G : GG} {k48 : Option (Int32 × MH)} {h : MH} {a0 : Nat} {x1 : Int32} {x2 : Int32} (hk48 : ∀  (r : (Int32 × MH)), k48  = some r → Ev G 10 M_X10_against 48 [none, none, none, none] [] h (some (.int r.1)) r.2) : ∀ (n : Nat) (x3 : Int32) (r : (Int32 × MH)), f_X10_against_L6 k48 h a0 x1 x2 n x3 = some r → Ev G 10 M_X10_against 6 [some (.ref a0), some (.int x1), some (.int x2), some (.int x3)] [] h (some (.int r.1)) r.2 := by
  intro n
  induction n with
  | zero => intro x3 r hf; rw [f_X10_against_L6] at hf; cases hf
  | succ n ih =>
    intro x3 r hf
    rw [f_X10_against_L6] at hf
    refine ev_iload_n i_X10_against_6 rfl ?_
    refine ev_aload_n i_X10_against_7 rfl ?_
    obtain ⟨v8, e8, hf⟩ := ob hf
    refine ev_cV_i i_X10_against_8 lk_X10_against_131 [] rfl rfl (by decide) (gK_of e8).1.1 (gK_of e8).1.2 (Nat.le_of_ble_eq_true rfl) (by decide) (e_X10_all e8) ?_
    refine ev_icmp_gt (tg := 48) i_X10_against_11 (by decide) (fun c11 => ?_) (fun c11 => ?_)
    · rw [if_pos c11] at hf
      refine ev_sub (lc2 := [none, none, none, none]) ⟨Or.inl rfl, Or.inl rfl, Or.inl rfl, Or.inl rfl, trivial⟩ ?_
      exact hk48  _ hf
    · rw [if_neg c11] at hf
      refine ev_iload_n i_X10_against_14 rfl ?_
      refine ev_iload_n i_X10_against_15 rfl ?_
      refine ev_iand i_X10_against_16 ?_
      refine ev_iload_n i_X10_against_17 rfl ?_
      refine ev_icmp_ne (tg := 42) i_X10_against_18 (by decide) (fun c18 => ?_) (fun c18 => ?_)
      · rw [if_neg c18] at hf
        refine ev_iinc (y := (x3 + (1 : Int32))) i_X10_against_42 rfl rfl (by decide) ?_
        refine ev_goto (tg := 6) i_X10_against_45 (by decide) ?_
        exact ih (x3 + (1 : Int32)) _ hf
      · rw [if_pos c18] at hf
        refine ev_iload_n i_X10_against_21 rfl ?_
        refine ev_iload_n i_X10_against_22 rfl ?_
        refine ev_iload_n i_X10_against_23 rfl ?_
        refine ev_ior i_X10_against_24 ?_
        refine ev_iconst i_X10_against_25 lt_i_m1 ?_
        refine ev_ixor i_X10_against_26 ?_
        refine ev_iand i_X10_against_27 ?_
        refine ev_if_ne (tg := 42) i_X10_against_28 (by decide) (fun c28 => ?_) (fun c28 => ?_)
        · rw [if_neg c28] at hf
          refine ev_iinc (y := (x3 + (1 : Int32))) i_X10_against_42 rfl rfl (by decide) ?_
          refine ev_goto (tg := 6) i_X10_against_45 (by decide) ?_
          exact ih (x3 + (1 : Int32)) _ hf
        · rw [if_pos c28] at hf
          refine ev_aload_n i_X10_against_31 rfl ?_
          obtain ⟨b32, e32, hf⟩ := ob hf
          refine ev_gR i_X10_against_32 fl_X10_44 rfl e32 ?_
          refine ev_iload_n i_X10_against_35 rfl ?_
          obtain ⟨v36, e36, hf⟩ := ob hf
          refine ev_aZ i_X10_against_36 e36 ?_
          refine ev_if_ne (tg := 42) i_X10_against_37 (by decide) (fun c37 => ?_) (fun c37 => ?_)
          · rw [if_neg c37] at hf
            refine ev_iinc (y := (x3 + (1 : Int32))) i_X10_against_42 rfl rfl (by decide) ?_
            refine ev_goto (tg := 6) i_X10_against_45 (by decide) ?_
            exact ih (x3 + (1 : Int32)) _ hf
          · rw [if_pos c37] at hf
            refine ev_iload_n i_X10_against_40 rfl ?_
            cases hf
            exact ev_iiret i_X10_against_41 rfl
def f_X10_against (h : MH) (a0 : Nat) (x1 : Int32) (x2 : Int32) : Option (Int32 × MH) := gK h a0 10 ((f_X10_learn h a0).bind fun h1 => f_X10_against_L6 (some ((-1 : Int32), h1)) h1 a0 x1 x2 fuel (0 : Int32))
set_option maxRecDepth 20000 in
theorem e_X10_against {G : GG} {h : MH} {a0 : Nat} {x1 : Int32} {x2 : Int32} {r : (Int32 × MH)} (hf : f_X10_against h a0 x1 x2 = some r) : Ev G 10 M_X10_against 0 (ent M_X10_against [.ref a0, .int x1, .int x2]) [] h (some (.int r.1)) r.2 := by
  unfold f_X10_against at hf
  show Ev G 10 M_X10_against 0 [some (.ref a0), some (.int x1), some (.int x2), none] [] h (some (.int r.1)) r.2
  obtain ⟨-, hf⟩ := gK_of hf
  refine ev_aload_n i_X10_against_0 rfl ?_
  obtain ⟨h1, e1, hf⟩ := ob hf
  refine ev_cV_v i_X10_against_1 lk_X10_against_180 [] rfl rfl (by decide) (gK_of e1).1.1 (gK_of e1).1.2 (Nat.le_of_ble_eq_true rfl) (by decide) (e_X10_learn e1) ?_
  refine ev_iconst i_X10_against_4 lt_i_0 ?_
  refine ev_istore_n i_X10_against_5 (by decide) ?_
  exact l_X10_against_6 (fun  r hf => by
    refine ev_iconst i_X10_against_48 lt_i_m1 ?_
    cases hf
    exact ev_iiret i_X10_against_49 rfl) fuel (0 : Int32) _ hf
def f_X10_fewest_L39 (k115 : MH → Option MH) (a0 : Nat) (x1 : Int32) (x2 : Int32) : Nat → MH → Int32 → Option MH
  | 0, _, _ => none
  | n + 1, h, x3 => (f_X10_all h a0).bind fun v41 => (if v41 < x3 then (k115 h) else ((if (x3 &&& (x1 ^^^ (-1 : Int32))) = 0 then ((if (x3 &&& x2) = 0 then ((gR h a0 10 26).bind fun b62 => (aI h b62 (x2 ||| x3)).bind fun v68 => (gR h a0 10 26).bind fun b72 => (aI h b72 x2).bind fun v76 => (if (v68 + (1 : Int32)) < v76 then ((f_X10_against h a0 x2 x3).bind fun r86 => (if r86.1 = (-1 : Int32) then ((gR r86.2 a0 10 26).bind fun b94 => (gR r86.2 a0 10 26).bind fun b99 => (aI r86.2 b99 (x2 ||| x3)).bind fun v105 => (sI r86.2 b94 x2 (v105 + (1 : Int32))).bind fun h108 => f_X10_fewest_L39 k115 a0 x1 x2 n h108 (x3 + (1 : Int32))) else (f_X10_fewest_L39 k115 a0 x1 x2 n r86.2 (x3 + (1 : Int32))))) else (f_X10_fewest_L39 k115 a0 x1 x2 n h (x3 + (1 : Int32))))) else (f_X10_fewest_L39 k115 a0 x1 x2 n h (x3 + (1 : Int32))))) else (f_X10_fewest_L39 k115 a0 x1 x2 n h (x3 + (1 : Int32))))))
set_option maxRecDepth 20000 in
theorem l_X10_fewest_39 {G : GG} {k115 : MH → Option MH} {a0 : Nat} {x1 : Int32} {x2 : Int32} (hk115 : ∀ (hz : MH) (r : MH), k115 hz = some r → Ev G 11 M_X10_fewest 115 [some (.ref a0), some (.int x1), some (.int x2), none] [] hz none r) : ∀ (n : Nat) (h : MH) (x3 : Int32) (r : MH), f_X10_fewest_L39 k115 a0 x1 x2 n h x3 = some r → Ev G 11 M_X10_fewest 39 [some (.ref a0), some (.int x1), some (.int x2), some (.int x3)] [] h none r := by
  intro n
  induction n with
  | zero => intro h x3 r hf; rw [f_X10_fewest_L39] at hf; cases hf
  | succ n ih =>
    intro h x3 r hf
    rw [f_X10_fewest_L39] at hf
    refine ev_iload_n i_X10_fewest_39 rfl ?_
    refine ev_aload_n i_X10_fewest_40 rfl ?_
    obtain ⟨v41, e41, hf⟩ := ob hf
    refine ev_cV_i i_X10_fewest_41 lk_X10_fewest_131 [] rfl rfl (by decide) (gK_of e41).1.1 (gK_of e41).1.2 (Nat.le_of_ble_eq_true rfl) (by decide) (e_X10_all e41) ?_
    refine ev_icmp_gt (tg := 115) i_X10_fewest_44 (by decide) (fun c44 => ?_) (fun c44 => ?_)
    · rw [if_pos c44] at hf
      refine ev_sub (lc2 := [some (.ref a0), some (.int x1), some (.int x2), none]) ⟨Or.inr rfl, Or.inr rfl, Or.inr rfl, Or.inl rfl, trivial⟩ ?_
      exact hk115 h _ hf
    · rw [if_neg c44] at hf
      refine ev_iload_n i_X10_fewest_47 rfl ?_
      refine ev_iload_n i_X10_fewest_48 rfl ?_
      refine ev_iconst i_X10_fewest_49 lt_i_m1 ?_
      refine ev_ixor i_X10_fewest_50 ?_
      refine ev_iand i_X10_fewest_51 ?_
      refine ev_if_ne (tg := 109) i_X10_fewest_52 (by decide) (fun c52 => ?_) (fun c52 => ?_)
      · rw [if_neg c52] at hf
        refine ev_iinc (y := (x3 + (1 : Int32))) i_X10_fewest_109 rfl rfl (by decide) ?_
        refine ev_goto (tg := 39) i_X10_fewest_112 (by decide) ?_
        exact ih h (x3 + (1 : Int32)) _ hf
      · rw [if_pos c52] at hf
        refine ev_iload_n i_X10_fewest_55 rfl ?_
        refine ev_iload_n i_X10_fewest_56 rfl ?_
        refine ev_iand i_X10_fewest_57 ?_
        refine ev_if_ne (tg := 109) i_X10_fewest_58 (by decide) (fun c58 => ?_) (fun c58 => ?_)
        · rw [if_neg c58] at hf
          refine ev_iinc (y := (x3 + (1 : Int32))) i_X10_fewest_109 rfl rfl (by decide) ?_
          refine ev_goto (tg := 39) i_X10_fewest_112 (by decide) ?_
          exact ih h (x3 + (1 : Int32)) _ hf
        · rw [if_pos c58] at hf
          refine ev_aload_n i_X10_fewest_61 rfl ?_
          obtain ⟨b62, e62, hf⟩ := ob hf
          refine ev_gR i_X10_fewest_62 fl_X10_54 rfl e62 ?_
          refine ev_iload_n i_X10_fewest_65 rfl ?_
          refine ev_iload_n i_X10_fewest_66 rfl ?_
          refine ev_ior i_X10_fewest_67 ?_
          obtain ⟨v68, e68, hf⟩ := ob hf
          refine ev_aI i_X10_fewest_68 e68 ?_
          refine ev_iconst i_X10_fewest_69 lt_i_1 ?_
          refine ev_iadd i_X10_fewest_70 ?_
          refine ev_aload_n i_X10_fewest_71 rfl ?_
          obtain ⟨b72, e72, hf⟩ := ob hf
          refine ev_gR i_X10_fewest_72 fl_X10_54 rfl e72 ?_
          refine ev_iload_n i_X10_fewest_75 rfl ?_
          obtain ⟨v76, e76, hf⟩ := ob hf
          refine ev_aI i_X10_fewest_76 e76 ?_
          refine ev_icmp_lt (tg := 83) i_X10_fewest_77 (by decide) (fun c77 => ?_) (fun c77 => ?_)
          · rw [if_pos c77] at hf
            refine ev_aload_n i_X10_fewest_83 rfl ?_
            refine ev_iload_n i_X10_fewest_84 rfl ?_
            refine ev_iload_n i_X10_fewest_85 rfl ?_
            obtain ⟨r86, e86, hf⟩ := ob hf
            refine ev_cV_i i_X10_fewest_86 lk_X10_fewest_187 [.int x2, .int x3] rfl rfl (by decide) (gK_of e86).1.1 (gK_of e86).1.2 (Nat.le_of_ble_eq_true rfl) (by decide) (e_X10_against e86) ?_
            refine ev_iconst i_X10_fewest_89 lt_i_m1 ?_
            refine ev_icmp_ne (tg := 109) i_X10_fewest_90 (by decide) (fun c90 => ?_) (fun c90 => ?_)
            · rw [if_neg c90] at hf
              refine ev_iinc (y := (x3 + (1 : Int32))) i_X10_fewest_109 rfl rfl (by decide) ?_
              refine ev_goto (tg := 39) i_X10_fewest_112 (by decide) ?_
              exact ih r86.2 (x3 + (1 : Int32)) _ hf
            · rw [if_pos c90] at hf
              refine ev_aload_n i_X10_fewest_93 rfl ?_
              obtain ⟨b94, e94, hf⟩ := ob hf
              refine ev_gR i_X10_fewest_94 fl_X10_54 rfl e94 ?_
              refine ev_iload_n i_X10_fewest_97 rfl ?_
              refine ev_aload_n i_X10_fewest_98 rfl ?_
              obtain ⟨b99, e99, hf⟩ := ob hf
              refine ev_gR i_X10_fewest_99 fl_X10_54 rfl e99 ?_
              refine ev_iload_n i_X10_fewest_102 rfl ?_
              refine ev_iload_n i_X10_fewest_103 rfl ?_
              refine ev_ior i_X10_fewest_104 ?_
              obtain ⟨v105, e105, hf⟩ := ob hf
              refine ev_aI i_X10_fewest_105 e105 ?_
              refine ev_iconst i_X10_fewest_106 lt_i_1 ?_
              refine ev_iadd i_X10_fewest_107 ?_
              obtain ⟨h108, e108, hf⟩ := ob hf
              refine ev_sI i_X10_fewest_108 e108 ?_
              refine ev_iinc (y := (x3 + (1 : Int32))) i_X10_fewest_109 rfl rfl (by decide) ?_
              refine ev_goto (tg := 39) i_X10_fewest_112 (by decide) ?_
              exact ih h108 (x3 + (1 : Int32)) _ hf
          · rw [if_neg c77] at hf
            refine ev_goto (tg := 109) i_X10_fewest_80 (by decide) ?_
            refine ev_iinc (y := (x3 + (1 : Int32))) i_X10_fewest_109 rfl rfl (by decide) ?_
            refine ev_goto (tg := 39) i_X10_fewest_112 (by decide) ?_
            exact ih h (x3 + (1 : Int32)) _ hf
def f_X10_fewest_j36 (k5 : Int32 → MH → Option MH) (h : MH) (a0 : Nat) (x1 : Int32) (x2 : Int32) (xs0 : Int32) (xs1 : Int32) (as2 : Nat) : Option MH := (sI h as2 xs1 xs0).bind fun h36 => f_X10_fewest_L39 (fun he115 => k5 (x2 + (-1 : Int32)) he115) a0 x1 x2 fuel h36 (1 : Int32)
set_option maxRecDepth 20000 in
theorem j_X10_fewest_36 {G : GG} {k5 : Int32 → MH → Option MH} {h : MH} {a0 : Nat} {x1 : Int32} {x2 : Int32} {xs0 : Int32} {xs1 : Int32} {as2 : Nat} {r : MH} (hk5 : ∀ (x2z : Int32) (hz : MH) (r : MH), k5 x2z hz = some r → Ev G 11 M_X10_fewest 5 [some (.ref a0), some (.int x1), some (.int x2z), none] [] hz none r) (hf : f_X10_fewest_j36 k5 h a0 x1 x2 xs0 xs1 as2 = some r) : Ev G 11 M_X10_fewest 36 [some (.ref a0), some (.int x1), some (.int x2), none] [.int xs0, .int xs1, .ref as2] h none r := by
  unfold f_X10_fewest_j36 at hf
  obtain ⟨h36, e36, hf⟩ := ob hf
  refine ev_sI i_X10_fewest_36 e36 ?_
  refine ev_iconst i_X10_fewest_37 lt_i_1 ?_
  refine ev_istore_n i_X10_fewest_38 (by decide) ?_
  exact l_X10_fewest_39 (fun he115 r hf => by
    refine ev_iinc (y := (x2 + (-1 : Int32))) i_X10_fewest_115 rfl rfl (by decide) ?_
    refine ev_goto (tg := 5) i_X10_fewest_118 (by decide) ?_
    exact hk5 (x2 + (-1 : Int32)) he115 _ hf) fuel h36 (1 : Int32) _ hf
def f_X10_fewest_L5 (k121 : MH → Option MH) (a0 : Nat) (x1 : Int32) : Nat → MH → Int32 → Option MH
  | 0, _, _ => none
  | n + 1, h, x2 => (if x2 < 0 then (k121 h) else ((if (x2 &&& (x1 ^^^ (-1 : Int32))) = 0 then ((gR h a0 10 26).bind fun b21 => (if x2 = x1 then (f_X10_fewest_j36 (fun x2f5 hf5 => f_X10_fewest_L5 k121 a0 x1 n hf5 x2f5) h a0 x1 x2 (0 : Int32) x2 b21) else (f_X10_fewest_j36 (fun x2f5 hf5 => f_X10_fewest_L5 k121 a0 x1 n hf5 x2f5) h a0 x1 x2 (99 : Int32) x2 b21))) else (f_X10_fewest_L5 k121 a0 x1 n h (x2 + (-1 : Int32))))))
set_option maxRecDepth 20000 in
theorem l_X10_fewest_5 {G : GG} {k121 : MH → Option MH} {a0 : Nat} {x1 : Int32} (hk121 : ∀ (hz : MH) (r : MH), k121 hz = some r → Ev G 11 M_X10_fewest 121 [none, none, none, none] [] hz none r) : ∀ (n : Nat) (h : MH) (x2 : Int32) (r : MH), f_X10_fewest_L5 k121 a0 x1 n h x2 = some r → Ev G 11 M_X10_fewest 5 [some (.ref a0), some (.int x1), some (.int x2), none] [] h none r := by
  intro n
  induction n with
  | zero => intro h x2 r hf; rw [f_X10_fewest_L5] at hf; cases hf
  | succ n ih =>
    intro h x2 r hf
    rw [f_X10_fewest_L5] at hf
    refine ev_iload_n i_X10_fewest_5 rfl ?_
    refine ev_if_lt (tg := 121) i_X10_fewest_6 (by decide) (fun c6 => ?_) (fun c6 => ?_)
    · rw [if_pos c6] at hf
      refine ev_sub (lc2 := [none, none, none, none]) ⟨Or.inl rfl, Or.inl rfl, Or.inl rfl, Or.inr rfl, trivial⟩ ?_
      exact hk121 h _ hf
    · rw [if_neg c6] at hf
      refine ev_iload_n i_X10_fewest_9 rfl ?_
      refine ev_iload_n i_X10_fewest_10 rfl ?_
      refine ev_iconst i_X10_fewest_11 lt_i_m1 ?_
      refine ev_ixor i_X10_fewest_12 ?_
      refine ev_iand i_X10_fewest_13 ?_
      refine ev_if_eq (tg := 20) i_X10_fewest_14 (by decide) (fun c14 => ?_) (fun c14 => ?_)
      · rw [if_pos c14] at hf
        refine ev_aload_n i_X10_fewest_20 rfl ?_
        obtain ⟨b21, e21, hf⟩ := ob hf
        refine ev_gR i_X10_fewest_21 fl_X10_54 rfl e21 ?_
        refine ev_iload_n i_X10_fewest_24 rfl ?_
        refine ev_iload_n i_X10_fewest_25 rfl ?_
        refine ev_iload_n i_X10_fewest_26 rfl ?_
        refine ev_icmp_ne (tg := 34) i_X10_fewest_27 (by decide) (fun c27 => ?_) (fun c27 => ?_)
        · rw [if_neg c27] at hf
          refine ev_bipush i_X10_fewest_34 lt_b_99 ?_
          exact j_X10_fewest_36 (fun x2f5 hf5 r hf => by
            exact ih hf5 x2f5 _ hf) hf
        · rw [if_pos c27] at hf
          refine ev_iconst i_X10_fewest_30 lt_i_0 ?_
          refine ev_goto (tg := 36) i_X10_fewest_31 (by decide) ?_
          exact j_X10_fewest_36 (fun x2f5 hf5 r hf => by
            exact ih hf5 x2f5 _ hf) hf
      · rw [if_neg c14] at hf
        refine ev_goto (tg := 115) i_X10_fewest_17 (by decide) ?_
        refine ev_iinc (y := (x2 + (-1 : Int32))) i_X10_fewest_115 rfl rfl (by decide) ?_
        refine ev_goto (tg := 5) i_X10_fewest_118 (by decide) ?_
        exact ih h (x2 + (-1 : Int32)) _ hf
def f_X10_fewest (h : MH) (a0 : Nat) (x1 : Int32) : Option MH := gK h a0 10 ((f_X10_all h a0).bind fun v1 => f_X10_fewest_L5 (fun he121 => some he121) a0 x1 fuel h v1)
set_option maxRecDepth 20000 in
theorem e_X10_fewest {G : GG} {h : MH} {a0 : Nat} {x1 : Int32} {r : MH} (hf : f_X10_fewest h a0 x1 = some r) : Ev G 11 M_X10_fewest 0 (ent M_X10_fewest [.ref a0, .int x1]) [] h none r := by
  unfold f_X10_fewest at hf
  show Ev G 11 M_X10_fewest 0 [some (.ref a0), some (.int x1), none, none] [] h none r
  obtain ⟨-, hf⟩ := gK_of hf
  refine ev_aload_n i_X10_fewest_0 rfl ?_
  obtain ⟨v1, e1, hf⟩ := ob hf
  refine ev_cV_i i_X10_fewest_1 lk_X10_fewest_131 [] rfl rfl (by decide) (gK_of e1).1.1 (gK_of e1).1.2 (Nat.le_of_ble_eq_true rfl) (by decide) (e_X10_all e1) ?_
  refine ev_istore_n i_X10_fewest_4 (by decide) ?_
  exact l_X10_fewest_5 (fun he121 r hf => by
    cases hf
    exact ev_vret i_X10_fewest_121 rfl) fuel h v1 _ hf
def f_X10_least_L42 (k91 : Int32 → MH → Option (Int32 × MH)) (a0 : Nat) (x1 : Int32) (x2 : Int32) : Nat → MH → Int32 → Option (Int32 × MH)
  | 0, _, _ => none
  | n + 1, h, x3 => (if (x3 &&& (x1 ^^^ (-1 : Int32))) = 0 then ((if (x3 &&& x2) = 0 then ((gR h a0 10 26).bind fun b57 => (aI h b57 (x2 ||| x3)).bind fun v63 => (gR h a0 10 26).bind fun b65 => (aI h b65 x2).bind fun v69 => (if v63 = (v69 - (1 : Int32)) then ((f_X10_against h a0 x2 x3).bind fun r78 => (if r78.1 = (-1 : Int32) then (k91 x3 r78.2) else (f_X10_least_L42 k91 a0 x1 x2 n r78.2 (x3 + (1 : Int32))))) else (f_X10_least_L42 k91 a0 x1 x2 n h (x3 + (1 : Int32))))) else (f_X10_least_L42 k91 a0 x1 x2 n h (x3 + (1 : Int32))))) else (f_X10_least_L42 k91 a0 x1 x2 n h (x3 + (1 : Int32))))
set_option maxRecDepth 20000 in
theorem l_X10_least_42 {G : GG} {k91 : Int32 → MH → Option (Int32 × MH)} {a0 : Nat} {x1 : Int32} {x2 : Int32} (hk91 : ∀ (x3z : Int32) (hz : MH) (r : (Int32 × MH)), k91 x3z hz = some r → Ev G 12 M_X10_least 91 [some (.ref a0), some (.int x1), some (.int x2), some (.int x3z)] [] hz (some (.int r.1)) r.2) : ∀ (n : Nat) (h : MH) (x3 : Int32) (r : (Int32 × MH)), f_X10_least_L42 k91 a0 x1 x2 n h x3 = some r → Ev G 12 M_X10_least 42 [some (.ref a0), some (.int x1), some (.int x2), some (.int x3)] [] h (some (.int r.1)) r.2 := by
  intro n
  induction n with
  | zero => intro h x3 r hf; rw [f_X10_least_L42] at hf; cases hf
  | succ n ih =>
    intro h x3 r hf
    rw [f_X10_least_L42] at hf
    refine ev_iload_n i_X10_least_42 rfl ?_
    refine ev_iload_n i_X10_least_43 rfl ?_
    refine ev_iconst i_X10_least_44 lt_i_m1 ?_
    refine ev_ixor i_X10_least_45 ?_
    refine ev_iand i_X10_least_46 ?_
    refine ev_if_ne (tg := 85) i_X10_least_47 (by decide) (fun c47 => ?_) (fun c47 => ?_)
    · rw [if_neg c47] at hf
      refine ev_iinc (y := (x3 + (1 : Int32))) i_X10_least_85 rfl rfl (by decide) ?_
      refine ev_goto (tg := 42) i_X10_least_88 (by decide) ?_
      exact ih h (x3 + (1 : Int32)) _ hf
    · rw [if_pos c47] at hf
      refine ev_iload_n i_X10_least_50 rfl ?_
      refine ev_iload_n i_X10_least_51 rfl ?_
      refine ev_iand i_X10_least_52 ?_
      refine ev_if_ne (tg := 85) i_X10_least_53 (by decide) (fun c53 => ?_) (fun c53 => ?_)
      · rw [if_neg c53] at hf
        refine ev_iinc (y := (x3 + (1 : Int32))) i_X10_least_85 rfl rfl (by decide) ?_
        refine ev_goto (tg := 42) i_X10_least_88 (by decide) ?_
        exact ih h (x3 + (1 : Int32)) _ hf
      · rw [if_pos c53] at hf
        refine ev_aload_n i_X10_least_56 rfl ?_
        obtain ⟨b57, e57, hf⟩ := ob hf
        refine ev_gR i_X10_least_57 fl_X10_54 rfl e57 ?_
        refine ev_iload_n i_X10_least_60 rfl ?_
        refine ev_iload_n i_X10_least_61 rfl ?_
        refine ev_ior i_X10_least_62 ?_
        obtain ⟨v63, e63, hf⟩ := ob hf
        refine ev_aI i_X10_least_63 e63 ?_
        refine ev_aload_n i_X10_least_64 rfl ?_
        obtain ⟨b65, e65, hf⟩ := ob hf
        refine ev_gR i_X10_least_65 fl_X10_54 rfl e65 ?_
        refine ev_iload_n i_X10_least_68 rfl ?_
        obtain ⟨v69, e69, hf⟩ := ob hf
        refine ev_aI i_X10_least_69 e69 ?_
        refine ev_iconst i_X10_least_70 lt_i_1 ?_
        refine ev_isub i_X10_least_71 ?_
        refine ev_icmp_ne (tg := 85) i_X10_least_72 (by decide) (fun c72 => ?_) (fun c72 => ?_)
        · rw [if_neg c72] at hf
          refine ev_iinc (y := (x3 + (1 : Int32))) i_X10_least_85 rfl rfl (by decide) ?_
          refine ev_goto (tg := 42) i_X10_least_88 (by decide) ?_
          exact ih h (x3 + (1 : Int32)) _ hf
        · rw [if_pos c72] at hf
          refine ev_aload_n i_X10_least_75 rfl ?_
          refine ev_iload_n i_X10_least_76 rfl ?_
          refine ev_iload_n i_X10_least_77 rfl ?_
          obtain ⟨r78, e78, hf⟩ := ob hf
          refine ev_cV_i i_X10_least_78 lk_X10_least_187 [.int x2, .int x3] rfl rfl (by decide) (gK_of e78).1.1 (gK_of e78).1.2 (Nat.le_of_ble_eq_true rfl) (by decide) (e_X10_against e78) ?_
          refine ev_iconst i_X10_least_81 lt_i_m1 ?_
          refine ev_icmp_eq (tg := 91) i_X10_least_82 (by decide) (fun c82 => ?_) (fun c82 => ?_)
          · rw [if_pos c82] at hf
            exact hk91 x3 r78.2 _ hf
          · rw [if_neg c82] at hf
            refine ev_iinc (y := (x3 + (1 : Int32))) i_X10_least_85 rfl rfl (by decide) ?_
            refine ev_goto (tg := 42) i_X10_least_88 (by decide) ?_
            exact ih r78.2 (x3 + (1 : Int32)) _ hf
def f_X10_least_L35 (k118 : MH → Option (Int32 × MH)) (a0 : Nat) (x1 : Int32) : Nat → MH → Int32 → Option (Int32 × MH)
  | 0, _, _ => none
  | n + 1, h, x2 => (if x2 = x1 then (k118 h) else (f_X10_least_L42 (fun x3e91 he91 => (gR he91 a0 10 25).bind fun b92 => (gI he91 a0 10 24).bind fun v96 => (sI he91 b92 v96 x3e91).bind fun h100 => (gI h100 a0 10 24).bind fun v103 => (pI h100 a0 10 24 (v103 + (1 : Int32))).bind fun h108 => f_X10_least_L35 k118 a0 x1 n h108 (x2 ||| x3e91)) a0 x1 x2 fuel h (1 : Int32)))
set_option maxRecDepth 20000 in
theorem l_X10_least_35 {G : GG} {k118 : MH → Option (Int32 × MH)} {a0 : Nat} {x1 : Int32} (hk118 : ∀ (hz : MH) (r : (Int32 × MH)), k118 hz = some r → Ev G 12 M_X10_least 118 [some (.ref a0), none, none, none] [] hz (some (.int r.1)) r.2) : ∀ (n : Nat) (h : MH) (x2 : Int32) (r : (Int32 × MH)), f_X10_least_L35 k118 a0 x1 n h x2 = some r → Ev G 12 M_X10_least 35 [some (.ref a0), some (.int x1), some (.int x2), none] [] h (some (.int r.1)) r.2 := by
  intro n
  induction n with
  | zero => intro h x2 r hf; rw [f_X10_least_L35] at hf; cases hf
  | succ n ih =>
    intro h x2 r hf
    rw [f_X10_least_L35] at hf
    refine ev_iload_n i_X10_least_35 rfl ?_
    refine ev_iload_n i_X10_least_36 rfl ?_
    refine ev_icmp_eq (tg := 118) i_X10_least_37 (by decide) (fun c37 => ?_) (fun c37 => ?_)
    · rw [if_pos c37] at hf
      refine ev_sub (lc2 := [some (.ref a0), none, none, none]) ⟨Or.inr rfl, Or.inl rfl, Or.inl rfl, Or.inr rfl, trivial⟩ ?_
      exact hk118 h _ hf
    · rw [if_neg c37] at hf
      refine ev_iconst i_X10_least_40 lt_i_1 ?_
      refine ev_istore_n i_X10_least_41 (by decide) ?_
      exact l_X10_least_42 (fun x3e91 he91 r hf => by
        refine ev_aload_n i_X10_least_91 rfl ?_
        obtain ⟨b92, e92, hf⟩ := ob hf
        refine ev_gR i_X10_least_92 fl_X10_51 rfl e92 ?_
        refine ev_aload_n i_X10_least_95 rfl ?_
        obtain ⟨v96, e96, hf⟩ := ob hf
        refine ev_gI i_X10_least_96 fl_X10_162 rfl e96 ?_
        refine ev_iload_n i_X10_least_99 rfl ?_
        obtain ⟨h100, e100, hf⟩ := ob hf
        refine ev_sI i_X10_least_100 e100 ?_
        refine ev_aload_n i_X10_least_101 rfl ?_
        refine ev_dup i_X10_least_102 ?_
        obtain ⟨v103, e103, hf⟩ := ob hf
        refine ev_gI i_X10_least_103 fl_X10_162 rfl e103 ?_
        refine ev_iconst i_X10_least_106 lt_i_1 ?_
        refine ev_iadd i_X10_least_107 ?_
        obtain ⟨h108, e108, hf⟩ := ob hf
        refine ev_pI i_X10_least_108 fp_X10_least_162 rfl e108 ?_
        refine ev_iload_n i_X10_least_111 rfl ?_
        refine ev_iload_n i_X10_least_112 rfl ?_
        refine ev_ior i_X10_least_113 ?_
        refine ev_istore_n i_X10_least_114 (by decide) ?_
        refine ev_goto (tg := 35) i_X10_least_115 (by decide) ?_
        refine ev_sub (lc2 := [some (.ref a0), some (.int x1), some (.int (x2 ||| x3e91)), none]) ⟨Or.inr rfl, Or.inr rfl, Or.inr rfl, Or.inl rfl, trivial⟩ ?_
        exact ih h108 (x2 ||| x3e91) _ hf) fuel h (1 : Int32) _ hf
def f_X10_least (h : MH) (a0 : Nat) : Option (Int32 × MH) := gK h a0 10 ((f_X10_unlike h a0).bind fun v1 => (f_X10_fewest h a0 v1).bind fun h7 => (gR h7 a0 10 26).bind fun b11 => (aI h7 b11 (0 : Int32)).bind fun v15 => (if v15 = (99 : Int32) then (some ((-1 : Int32), h7)) else ((pZ h7 a0 10 28 (0 : Int32)).bind fun h25 => (pI h25 a0 10 24 (0 : Int32)).bind fun h30 => f_X10_least_L35 (fun he118 => (gI he118 a0 10 24).bind fun v119 => some (v119, he118)) a0 v1 fuel h30 (0 : Int32))))
set_option maxRecDepth 20000 in
theorem e_X10_least {G : GG} {h : MH} {a0 : Nat} {r : (Int32 × MH)} (hf : f_X10_least h a0 = some r) : Ev G 12 M_X10_least 0 (ent M_X10_least [.ref a0]) [] h (some (.int r.1)) r.2 := by
  unfold f_X10_least at hf
  show Ev G 12 M_X10_least 0 [some (.ref a0), none, none, none] [] h (some (.int r.1)) r.2
  obtain ⟨-, hf⟩ := gK_of hf
  refine ev_aload_n i_X10_least_0 rfl ?_
  obtain ⟨v1, e1, hf⟩ := ob hf
  refine ev_cV_i i_X10_least_1 lk_X10_least_177 [] rfl rfl (by decide) (gK_of e1).1.1 (gK_of e1).1.2 (Nat.le_of_ble_eq_true rfl) (by decide) (e_X10_unlike e1) ?_
  refine ev_istore_n i_X10_least_4 (by decide) ?_
  refine ev_aload_n i_X10_least_5 rfl ?_
  refine ev_iload_n i_X10_least_6 rfl ?_
  obtain ⟨h7, e7, hf⟩ := ob hf
  refine ev_cV_v i_X10_least_7 lk_X10_least_190 [.int v1] rfl rfl (by decide) (gK_of e7).1.1 (gK_of e7).1.2 (Nat.le_of_ble_eq_true rfl) (by decide) (e_X10_fewest e7) ?_
  refine ev_aload_n i_X10_least_10 rfl ?_
  obtain ⟨b11, e11, hf⟩ := ob hf
  refine ev_gR i_X10_least_11 fl_X10_54 rfl e11 ?_
  refine ev_iconst i_X10_least_14 lt_i_0 ?_
  obtain ⟨v15, e15, hf⟩ := ob hf
  refine ev_aI i_X10_least_15 e15 ?_
  refine ev_bipush i_X10_least_16 lt_b_99 ?_
  refine ev_icmp_ne (tg := 23) i_X10_least_18 (by decide) (fun c18 => ?_) (fun c18 => ?_)
  · rw [if_neg c18] at hf
    refine ev_aload_n i_X10_least_23 rfl ?_
    refine ev_iconst i_X10_least_24 lt_i_0 ?_
    obtain ⟨h25, e25, hf⟩ := ob hf
    refine ev_pZ i_X10_least_25 fp_X10_least_165 rfl e25 ?_
    refine ev_aload_n i_X10_least_28 rfl ?_
    refine ev_iconst i_X10_least_29 lt_i_0 ?_
    obtain ⟨h30, e30, hf⟩ := ob hf
    refine ev_pI i_X10_least_30 fp_X10_least_162 rfl e30 ?_
    refine ev_iconst i_X10_least_33 lt_i_0 ?_
    refine ev_istore_n i_X10_least_34 (by decide) ?_
    exact l_X10_least_35 (fun he118 r hf => by
      refine ev_aload_n i_X10_least_118 rfl ?_
      obtain ⟨v119, e119, hf⟩ := ob hf
      refine ev_gI i_X10_least_119 fl_X10_162 rfl e119 ?_
      cases hf
      exact ev_iiret i_X10_least_122 rfl) fuel h30 (0 : Int32) _ hf
  · rw [if_pos c18] at hf
    refine ev_iconst i_X10_least_21 lt_i_m1 ?_
    cases hf
    exact ev_iiret i_X10_least_22 rfl
def f_X10_ways_L42 (k113 : MH → Option MH) (a0 : Nat) (x1 : Int32) (x2 : Int32) : Nat → MH → Int32 → Option MH
  | 0, _, _ => none
  | n + 1, h, x3 => (gI h a0 10 0).bind fun v44 => (if v44 ≤ x3 then (k113 h) else ((if (x2 ||| ((1 : Int32) <<< (x3 &&& 31))) = x2 then (f_X10_ways_L42 k113 a0 x1 x2 n h (x3 + (1 : Int32))) else ((if ((x2 ||| ((1 : Int32) <<< (x3 &&& 31))) &&& (x1 ^^^ (-1 : Int32))) = 0 then ((gR h a0 10 22).bind fun b73 => (aZ h b73 x2).bind fun v77 => (if v77 = 0 then (f_X10_ways_L42 k113 a0 x1 x2 n h (x3 + (1 : Int32))) else ((gR h a0 10 22).bind fun b82 => (aZ h b82 (x2 ||| ((1 : Int32) <<< (x3 &&& 31)))).bind fun v87 => (if v87 = 0 then (f_X10_ways_L42 k113 a0 x1 x2 n h (x3 + (1 : Int32))) else ((gR h a0 10 27).bind fun b92 => (aI h b92 x2).bind fun v97 => (gR h a0 10 27).bind fun b99 => (aI h b99 (x2 ||| ((1 : Int32) <<< (x3 &&& 31)))).bind fun v104 => (sI h b92 x2 (v97 + v104)).bind fun h106 => f_X10_ways_L42 k113 a0 x1 x2 n h106 (x3 + (1 : Int32))))))) else (f_X10_ways_L42 k113 a0 x1 x2 n h (x3 + (1 : Int32))))))))
set_option maxRecDepth 20000 in
theorem l_X10_ways_42 {G : GG} {k113 : MH → Option MH} {a0 : Nat} {x1 : Int32} {x2 : Int32} (hk113 : ∀ (hz : MH) (r : MH), k113 hz = some r → Ev G 10 M_X10_ways 113 [some (.ref a0), some (.int x1), some (.int x2), none, none] [] hz none r) : ∀ (n : Nat) (h : MH) (x3 : Int32) (r : MH), f_X10_ways_L42 k113 a0 x1 x2 n h x3 = some r → Ev G 10 M_X10_ways 42 [some (.ref a0), some (.int x1), some (.int x2), some (.int x3), none] [] h none r := by
  intro n
  induction n with
  | zero => intro h x3 r hf; rw [f_X10_ways_L42] at hf; cases hf
  | succ n ih =>
    intro h x3 r hf
    rw [f_X10_ways_L42] at hf
    refine ev_iload_n i_X10_ways_42 rfl ?_
    refine ev_aload_n i_X10_ways_43 rfl ?_
    obtain ⟨v44, e44, hf⟩ := ob hf
    refine ev_gI i_X10_ways_44 fl_X10_82 rfl e44 ?_
    refine ev_icmp_ge (tg := 113) i_X10_ways_47 (by decide) (fun c47 => ?_) (fun c47 => ?_)
    · rw [if_pos c47] at hf
      refine ev_sub (lc2 := [some (.ref a0), some (.int x1), some (.int x2), none, none]) ⟨Or.inr rfl, Or.inr rfl, Or.inr rfl, Or.inl rfl, Or.inr rfl, trivial⟩ ?_
      exact hk113 h _ hf
    · rw [if_neg c47] at hf
      refine ev_iload_n i_X10_ways_50 rfl ?_
      refine ev_iconst i_X10_ways_51 lt_i_1 ?_
      refine ev_iload_n i_X10_ways_52 rfl ?_
      refine ev_ishl i_X10_ways_53 ?_
      refine ev_ior i_X10_ways_54 ?_
      refine ev_istore i_X10_ways_55 (by decide) ?_
      refine ev_iload i_X10_ways_57 rfl ?_
      refine ev_iload_n i_X10_ways_59 rfl ?_
      refine ev_icmp_eq (tg := 107) i_X10_ways_60 (by decide) (fun c60 => ?_) (fun c60 => ?_)
      · rw [if_pos c60] at hf
        refine ev_iinc (y := (x3 + (1 : Int32))) i_X10_ways_107 rfl rfl (by decide) ?_
        refine ev_goto (tg := 42) i_X10_ways_110 (by decide) ?_
        refine ev_sub (lc2 := [some (.ref a0), some (.int x1), some (.int x2), some (.int (x3 + (1 : Int32))), none]) ⟨Or.inr rfl, Or.inr rfl, Or.inr rfl, Or.inr rfl, Or.inl rfl, trivial⟩ ?_
        exact ih h (x3 + (1 : Int32)) _ hf
      · rw [if_neg c60] at hf
        refine ev_iload i_X10_ways_63 rfl ?_
        refine ev_iload_n i_X10_ways_65 rfl ?_
        refine ev_iconst i_X10_ways_66 lt_i_m1 ?_
        refine ev_ixor i_X10_ways_67 ?_
        refine ev_iand i_X10_ways_68 ?_
        refine ev_if_ne (tg := 107) i_X10_ways_69 (by decide) (fun c69 => ?_) (fun c69 => ?_)
        · rw [if_neg c69] at hf
          refine ev_iinc (y := (x3 + (1 : Int32))) i_X10_ways_107 rfl rfl (by decide) ?_
          refine ev_goto (tg := 42) i_X10_ways_110 (by decide) ?_
          refine ev_sub (lc2 := [some (.ref a0), some (.int x1), some (.int x2), some (.int (x3 + (1 : Int32))), none]) ⟨Or.inr rfl, Or.inr rfl, Or.inr rfl, Or.inr rfl, Or.inl rfl, trivial⟩ ?_
          exact ih h (x3 + (1 : Int32)) _ hf
        · rw [if_pos c69] at hf
          refine ev_aload_n i_X10_ways_72 rfl ?_
          obtain ⟨b73, e73, hf⟩ := ob hf
          refine ev_gR i_X10_ways_73 fl_X10_44 rfl e73 ?_
          refine ev_iload_n i_X10_ways_76 rfl ?_
          obtain ⟨v77, e77, hf⟩ := ob hf
          refine ev_aZ i_X10_ways_77 e77 ?_
          refine ev_if_eq (tg := 107) i_X10_ways_78 (by decide) (fun c78 => ?_) (fun c78 => ?_)
          · rw [if_pos c78] at hf
            refine ev_iinc (y := (x3 + (1 : Int32))) i_X10_ways_107 rfl rfl (by decide) ?_
            refine ev_goto (tg := 42) i_X10_ways_110 (by decide) ?_
            refine ev_sub (lc2 := [some (.ref a0), some (.int x1), some (.int x2), some (.int (x3 + (1 : Int32))), none]) ⟨Or.inr rfl, Or.inr rfl, Or.inr rfl, Or.inr rfl, Or.inl rfl, trivial⟩ ?_
            exact ih h (x3 + (1 : Int32)) _ hf
          · rw [if_neg c78] at hf
            refine ev_aload_n i_X10_ways_81 rfl ?_
            obtain ⟨b82, e82, hf⟩ := ob hf
            refine ev_gR i_X10_ways_82 fl_X10_44 rfl e82 ?_
            refine ev_iload i_X10_ways_85 rfl ?_
            obtain ⟨v87, e87, hf⟩ := ob hf
            refine ev_aZ i_X10_ways_87 e87 ?_
            refine ev_if_eq (tg := 107) i_X10_ways_88 (by decide) (fun c88 => ?_) (fun c88 => ?_)
            · rw [if_pos c88] at hf
              refine ev_iinc (y := (x3 + (1 : Int32))) i_X10_ways_107 rfl rfl (by decide) ?_
              refine ev_goto (tg := 42) i_X10_ways_110 (by decide) ?_
              refine ev_sub (lc2 := [some (.ref a0), some (.int x1), some (.int x2), some (.int (x3 + (1 : Int32))), none]) ⟨Or.inr rfl, Or.inr rfl, Or.inr rfl, Or.inr rfl, Or.inl rfl, trivial⟩ ?_
              exact ih h (x3 + (1 : Int32)) _ hf
            · rw [if_neg c88] at hf
              refine ev_aload_n i_X10_ways_91 rfl ?_
              obtain ⟨b92, e92, hf⟩ := ob hf
              refine ev_gR i_X10_ways_92 fl_X10_57 rfl e92 ?_
              refine ev_iload_n i_X10_ways_95 rfl ?_
              refine ev_dup2 i_X10_ways_96 ?_
              obtain ⟨v97, e97, hf⟩ := ob hf
              refine ev_aI i_X10_ways_97 e97 ?_
              refine ev_aload_n i_X10_ways_98 rfl ?_
              obtain ⟨b99, e99, hf⟩ := ob hf
              refine ev_gR i_X10_ways_99 fl_X10_57 rfl e99 ?_
              refine ev_iload i_X10_ways_102 rfl ?_
              obtain ⟨v104, e104, hf⟩ := ob hf
              refine ev_aI i_X10_ways_104 e104 ?_
              refine ev_iadd i_X10_ways_105 ?_
              obtain ⟨h106, e106, hf⟩ := ob hf
              refine ev_sI i_X10_ways_106 e106 ?_
              refine ev_iinc (y := (x3 + (1 : Int32))) i_X10_ways_107 rfl rfl (by decide) ?_
              refine ev_goto (tg := 42) i_X10_ways_110 (by decide) ?_
              refine ev_sub (lc2 := [some (.ref a0), some (.int x1), some (.int x2), some (.int (x3 + (1 : Int32))), none]) ⟨Or.inr rfl, Or.inr rfl, Or.inr rfl, Or.inr rfl, Or.inl rfl, trivial⟩ ?_
              exact ih h106 (x3 + (1 : Int32)) _ hf
def f_X10_ways_j39 (k9 : Int32 → MH → Option MH) (h : MH) (a0 : Nat) (x1 : Int32) (x2 : Int32) (xs0 : Int32) (xs1 : Int32) (as2 : Nat) : Option MH := (sI h as2 xs1 xs0).bind fun h39 => f_X10_ways_L42 (fun he113 => k9 (x2 + (-1 : Int32)) he113) a0 x1 x2 fuel h39 (0 : Int32)
set_option maxRecDepth 20000 in
theorem j_X10_ways_39 {G : GG} {k9 : Int32 → MH → Option MH} {h : MH} {a0 : Nat} {x1 : Int32} {x2 : Int32} {xs0 : Int32} {xs1 : Int32} {as2 : Nat} {r : MH} (hk9 : ∀ (x2z : Int32) (hz : MH) (r : MH), k9 x2z hz = some r → Ev G 10 M_X10_ways 9 [some (.ref a0), some (.int x1), some (.int x2z), none, none] [] hz none r) (hf : f_X10_ways_j39 k9 h a0 x1 x2 xs0 xs1 as2 = some r) : Ev G 10 M_X10_ways 39 [some (.ref a0), some (.int x1), some (.int x2), none, none] [.int xs0, .int xs1, .ref as2] h none r := by
  unfold f_X10_ways_j39 at hf
  obtain ⟨h39, e39, hf⟩ := ob hf
  refine ev_sI i_X10_ways_39 e39 ?_
  refine ev_iconst i_X10_ways_40 lt_i_0 ?_
  refine ev_istore_n i_X10_ways_41 (by decide) ?_
  exact l_X10_ways_42 (fun he113 r hf => by
    refine ev_iinc (y := (x2 + (-1 : Int32))) i_X10_ways_113 rfl rfl (by decide) ?_
    refine ev_goto (tg := 9) i_X10_ways_116 (by decide) ?_
    exact hk9 (x2 + (-1 : Int32)) he113 _ hf) fuel h39 (0 : Int32) _ hf
def f_X10_ways_L9 (k119 : MH → Option MH) (a0 : Nat) (x1 : Int32) : Nat → MH → Int32 → Option MH
  | 0, _, _ => none
  | n + 1, h, x2 => (if x2 < 0 then (k119 h) else ((if (x2 &&& (x1 ^^^ (-1 : Int32))) = 0 then ((gR h a0 10 27).bind fun b25 => (if x2 = x1 then (f_X10_ways_j39 (fun x2f9 hf9 => f_X10_ways_L9 k119 a0 x1 n hf9 x2f9) h a0 x1 x2 (1 : Int32) x2 b25) else (f_X10_ways_j39 (fun x2f9 hf9 => f_X10_ways_L9 k119 a0 x1 n hf9 x2f9) h a0 x1 x2 (0 : Int32) x2 b25))) else (f_X10_ways_L9 k119 a0 x1 n h (x2 + (-1 : Int32))))))
set_option maxRecDepth 20000 in
theorem l_X10_ways_9 {G : GG} {k119 : MH → Option MH} {a0 : Nat} {x1 : Int32} (hk119 : ∀ (hz : MH) (r : MH), k119 hz = some r → Ev G 10 M_X10_ways 119 [none, none, none, none, none] [] hz none r) : ∀ (n : Nat) (h : MH) (x2 : Int32) (r : MH), f_X10_ways_L9 k119 a0 x1 n h x2 = some r → Ev G 10 M_X10_ways 9 [some (.ref a0), some (.int x1), some (.int x2), none, none] [] h none r := by
  intro n
  induction n with
  | zero => intro h x2 r hf; rw [f_X10_ways_L9] at hf; cases hf
  | succ n ih =>
    intro h x2 r hf
    rw [f_X10_ways_L9] at hf
    refine ev_iload_n i_X10_ways_9 rfl ?_
    refine ev_if_lt (tg := 119) i_X10_ways_10 (by decide) (fun c10 => ?_) (fun c10 => ?_)
    · rw [if_pos c10] at hf
      refine ev_sub (lc2 := [none, none, none, none, none]) ⟨Or.inl rfl, Or.inl rfl, Or.inl rfl, Or.inr rfl, Or.inr rfl, trivial⟩ ?_
      exact hk119 h _ hf
    · rw [if_neg c10] at hf
      refine ev_iload_n i_X10_ways_13 rfl ?_
      refine ev_iload_n i_X10_ways_14 rfl ?_
      refine ev_iconst i_X10_ways_15 lt_i_m1 ?_
      refine ev_ixor i_X10_ways_16 ?_
      refine ev_iand i_X10_ways_17 ?_
      refine ev_if_eq (tg := 24) i_X10_ways_18 (by decide) (fun c18 => ?_) (fun c18 => ?_)
      · rw [if_pos c18] at hf
        refine ev_aload_n i_X10_ways_24 rfl ?_
        obtain ⟨b25, e25, hf⟩ := ob hf
        refine ev_gR i_X10_ways_25 fl_X10_57 rfl e25 ?_
        refine ev_iload_n i_X10_ways_28 rfl ?_
        refine ev_iload_n i_X10_ways_29 rfl ?_
        refine ev_iload_n i_X10_ways_30 rfl ?_
        refine ev_icmp_ne (tg := 38) i_X10_ways_31 (by decide) (fun c31 => ?_) (fun c31 => ?_)
        · rw [if_neg c31] at hf
          refine ev_iconst i_X10_ways_38 lt_i_0 ?_
          exact j_X10_ways_39 (fun x2f9 hf9 r hf => by
            exact ih hf9 x2f9 _ hf) hf
        · rw [if_pos c31] at hf
          refine ev_iconst i_X10_ways_34 lt_i_1 ?_
          refine ev_goto (tg := 39) i_X10_ways_35 (by decide) ?_
          exact j_X10_ways_39 (fun x2f9 hf9 r hf => by
            exact ih hf9 x2f9 _ hf) hf
      · rw [if_neg c18] at hf
        refine ev_goto (tg := 113) i_X10_ways_21 (by decide) ?_
        refine ev_iinc (y := (x2 + (-1 : Int32))) i_X10_ways_113 rfl rfl (by decide) ?_
        refine ev_goto (tg := 9) i_X10_ways_116 (by decide) ?_
        exact ih h (x2 + (-1 : Int32)) _ hf
def f_X10_ways (h : MH) (a0 : Nat) (x1 : Int32) : Option MH := gK h a0 10 ((f_X10_learn h a0).bind fun h1 => (f_X10_all h1 a0).bind fun v5 => f_X10_ways_L9 (fun he119 => some he119) a0 x1 fuel h1 v5)
set_option maxRecDepth 20000 in
theorem e_X10_ways {G : GG} {h : MH} {a0 : Nat} {x1 : Int32} {r : MH} (hf : f_X10_ways h a0 x1 = some r) : Ev G 10 M_X10_ways 0 (ent M_X10_ways [.ref a0, .int x1]) [] h none r := by
  unfold f_X10_ways at hf
  show Ev G 10 M_X10_ways 0 [some (.ref a0), some (.int x1), none, none, none] [] h none r
  obtain ⟨-, hf⟩ := gK_of hf
  refine ev_aload_n i_X10_ways_0 rfl ?_
  obtain ⟨h1, e1, hf⟩ := ob hf
  refine ev_cV_v i_X10_ways_1 lk_X10_ways_180 [] rfl rfl (by decide) (gK_of e1).1.1 (gK_of e1).1.2 (Nat.le_of_ble_eq_true rfl) (by decide) (e_X10_learn e1) ?_
  refine ev_aload_n i_X10_ways_4 rfl ?_
  obtain ⟨v5, e5, hf⟩ := ob hf
  refine ev_cV_i i_X10_ways_5 lk_X10_ways_131 [] rfl rfl (by decide) (gK_of e5).1.1 (gK_of e5).1.2 (Nat.le_of_ble_eq_true rfl) (by decide) (e_X10_all e5) ?_
  refine ev_istore_n i_X10_ways_8 (by decide) ?_
  exact l_X10_ways_9 (fun he119 r hf => by
    cases hf
    exact ev_vret i_X10_ways_119 rfl) fuel h1 v5 _ hf
def f_X10_orders (h : MH) (a0 : Nat) : Option (Int32 × MH) := gK h a0 10 ((f_X10_unlike h a0).bind fun v2 => (f_X10_ways h a0 v2).bind fun h5 => (gR h5 a0 10 27).bind fun b9 => (aI h5 b9 (0 : Int32)).bind fun v13 => some (v13, h5))
set_option maxRecDepth 20000 in
theorem e_X10_orders {G : GG} {h : MH} {a0 : Nat} {r : (Int32 × MH)} (hf : f_X10_orders h a0 = some r) : Ev G 11 M_X10_orders 0 (ent M_X10_orders [.ref a0]) [] h (some (.int r.1)) r.2 := by
  unfold f_X10_orders at hf
  show Ev G 11 M_X10_orders 0 [some (.ref a0)] [] h (some (.int r.1)) r.2
  obtain ⟨-, hf⟩ := gK_of hf
  refine ev_aload_n i_X10_orders_0 rfl ?_
  refine ev_aload_n i_X10_orders_1 rfl ?_
  obtain ⟨v2, e2, hf⟩ := ob hf
  refine ev_cV_i i_X10_orders_2 lk_X10_orders_177 [] rfl rfl (by decide) (gK_of e2).1.1 (gK_of e2).1.2 (Nat.le_of_ble_eq_true rfl) (by decide) (e_X10_unlike e2) ?_
  obtain ⟨h5, e5, hf⟩ := ob hf
  refine ev_cV_v i_X10_orders_5 lk_X10_orders_192 [.int v2] rfl rfl (by decide) (gK_of e5).1.1 (gK_of e5).1.2 (Nat.le_of_ble_eq_true rfl) (by decide) (e_X10_ways e5) ?_
  refine ev_aload_n i_X10_orders_8 rfl ?_
  obtain ⟨b9, e9, hf⟩ := ob hf
  refine ev_gR i_X10_orders_9 fl_X10_57 rfl e9 ?_
  refine ev_iconst i_X10_orders_12 lt_i_0 ?_
  obtain ⟨v13, e13, hf⟩ := ob hf
  refine ev_aI i_X10_orders_13 e13 ?_
  cases hf
  exact ev_iiret i_X10_orders_14 rfl
def f_X10_order_j123 (k52 : Int32 → Int32 → Option (Int32 × MH)) (h : MH) (a0 : Nat) (x2 : Int32) (x3 : Int32) (x4 : Int32) (x5 : Int32) (x6 : Int32) (x7 : Int32) : Option (Int32 × MH) := (if x7 = 0 then (k52 (x3 - (0 : Int32)) (x5 + (1 : Int32))) else ((gR h a0 10 27).bind fun b130 => (aI h b130 x6).bind fun v135 => k52 (x3 - v135) (x5 + (1 : Int32))))
set_option maxRecDepth 20000 in
theorem j_X10_order_123 {G : GG} {k52 : Int32 → Int32 → Option (Int32 × MH)} {h : MH} {a0 : Nat} {x2 : Int32} {x3 : Int32} {x4 : Int32} {x5 : Int32} {x6 : Int32} {x7 : Int32} {r : (Int32 × MH)} (hk52 : ∀ (x3z : Int32) (x5z : Int32) (r : (Int32 × MH)), k52 x3z x5z = some r → Ev G 11 M_X10_order 52 [some (.ref a0), none, some (.int x2), some (.int x3z), some (.int x4), some (.int x5z), none, none] [] h (some (.int r.1)) r.2) (hf : f_X10_order_j123 k52 h a0 x2 x3 x4 x5 x6 x7 = some r) : Ev G 11 M_X10_order 123 [some (.ref a0), none, some (.int x2), some (.int x3), some (.int x4), some (.int x5), some (.int x6), some (.int x7)] [] h (some (.int r.1)) r.2 := by
  unfold f_X10_order_j123 at hf
  refine ev_iload_n i_X10_order_123 rfl ?_
  refine ev_iload i_X10_order_124 rfl ?_
  refine ev_if_eq (tg := 139) i_X10_order_126 (by decide) (fun c126 => ?_) (fun c126 => ?_)
  · rw [if_pos c126] at hf
    refine ev_iconst i_X10_order_139 lt_i_0 ?_
    refine ev_isub i_X10_order_140 ?_
    refine ev_istore_n i_X10_order_141 (by decide) ?_
    refine ev_iinc (y := (x5 + (1 : Int32))) i_X10_order_142 rfl rfl (by decide) ?_
    refine ev_goto (tg := 52) i_X10_order_145 (by decide) ?_
    refine ev_sub (lc2 := [some (.ref a0), none, some (.int x2), some (.int (x3 - (0 : Int32))), some (.int x4), some (.int (x5 + (1 : Int32))), none, none]) ⟨Or.inr rfl, Or.inr rfl, Or.inr rfl, Or.inr rfl, Or.inr rfl, Or.inr rfl, Or.inl rfl, Or.inl rfl, trivial⟩ ?_
    exact hk52 (x3 - (0 : Int32)) (x5 + (1 : Int32)) _ hf
  · rw [if_neg c126] at hf
    refine ev_aload_n i_X10_order_129 rfl ?_
    obtain ⟨b130, e130, hf⟩ := ob hf
    refine ev_gR i_X10_order_130 fl_X10_57 rfl e130 ?_
    refine ev_iload i_X10_order_133 rfl ?_
    obtain ⟨v135, e135, hf⟩ := ob hf
    refine ev_aI i_X10_order_135 e135 ?_
    refine ev_goto (tg := 140) i_X10_order_136 (by decide) ?_
    refine ev_isub i_X10_order_140 ?_
    refine ev_istore_n i_X10_order_141 (by decide) ?_
    refine ev_iinc (y := (x5 + (1 : Int32))) i_X10_order_142 rfl rfl (by decide) ?_
    refine ev_goto (tg := 52) i_X10_order_145 (by decide) ?_
    refine ev_sub (lc2 := [some (.ref a0), none, some (.int x2), some (.int (x3 - v135)), some (.int x4), some (.int (x5 + (1 : Int32))), none, none]) ⟨Or.inr rfl, Or.inr rfl, Or.inr rfl, Or.inr rfl, Or.inr rfl, Or.inr rfl, Or.inl rfl, Or.inl rfl, trivial⟩ ?_
    exact hk52 (x3 - v135) (x5 + (1 : Int32)) _ hf
def f_X10_order_j102 (k52 : Int32 → Int32 → Option (Int32 × MH)) (k120 : Int32 → Int32 → Option (Int32 × MH)) (h : MH) (a0 : Nat) (x2 : Int32) (x3 : Int32) (x4 : Int32) (x5 : Int32) (x6 : Int32) (xs0 : Int32) : Option (Int32 × MH) := (if xs0 = 0 then (f_X10_order_j123 (fun x3f52 x5f52 => k52 x3f52 x5f52) h a0 x2 x3 x4 x5 x6 xs0) else ((gR h a0 10 27).bind fun b111 => (aI h b111 x6).bind fun v116 => (if v116 ≤ x3 then (f_X10_order_j123 (fun x3f52 x5f52 => k52 x3f52 x5f52) h a0 x2 x3 x4 x5 x6 xs0) else (k120 x3 x5))))
set_option maxRecDepth 20000 in
theorem j_X10_order_102 {G : GG} {k52 : Int32 → Int32 → Option (Int32 × MH)} {k120 : Int32 → Int32 → Option (Int32 × MH)} {h : MH} {a0 : Nat} {x2 : Int32} {x3 : Int32} {x4 : Int32} {x5 : Int32} {x6 : Int32} {xs0 : Int32} {r : (Int32 × MH)} (hk52 : ∀ (x3z : Int32) (x5z : Int32) (r : (Int32 × MH)), k52 x3z x5z = some r → Ev G 11 M_X10_order 52 [some (.ref a0), none, some (.int x2), some (.int x3z), some (.int x4), some (.int x5z), none, none] [] h (some (.int r.1)) r.2) (hk120 : ∀ (x3z : Int32) (x5z : Int32) (r : (Int32 × MH)), k120 x3z x5z = some r → Ev G 11 M_X10_order 120 [some (.ref a0), none, some (.int x2), some (.int x3z), some (.int x4), some (.int x5z), none, none] [] h (some (.int r.1)) r.2) (hf : f_X10_order_j102 k52 k120 h a0 x2 x3 x4 x5 x6 xs0 = some r) : Ev G 11 M_X10_order 102 [some (.ref a0), none, some (.int x2), some (.int x3), some (.int x4), some (.int x5), some (.int x6), none] [.int xs0] h (some (.int r.1)) r.2 := by
  unfold f_X10_order_j102 at hf
  refine ev_istore i_X10_order_102 (by decide) ?_
  refine ev_iload i_X10_order_104 rfl ?_
  refine ev_if_eq (tg := 123) i_X10_order_106 (by decide) (fun c106 => ?_) (fun c106 => ?_)
  · rw [if_pos c106] at hf
    exact j_X10_order_123 (fun x3f52 x5f52 r hf => by
      exact hk52 x3f52 x5f52 _ hf) hf
  · rw [if_neg c106] at hf
    refine ev_iload_n i_X10_order_109 rfl ?_
    refine ev_aload_n i_X10_order_110 rfl ?_
    obtain ⟨b111, e111, hf⟩ := ob hf
    refine ev_gR i_X10_order_111 fl_X10_57 rfl e111 ?_
    refine ev_iload i_X10_order_114 rfl ?_
    obtain ⟨v116, e116, hf⟩ := ob hf
    refine ev_aI i_X10_order_116 e116 ?_
    refine ev_icmp_ge (tg := 123) i_X10_order_117 (by decide) (fun c117 => ?_) (fun c117 => ?_)
    · rw [if_pos c117] at hf
      exact j_X10_order_123 (fun x3f52 x5f52 r hf => by
        exact hk52 x3f52 x5f52 _ hf) hf
    · rw [if_neg c117] at hf
      refine ev_sub (lc2 := [some (.ref a0), none, some (.int x2), some (.int x3), some (.int x4), some (.int x5), none, none]) ⟨Or.inr rfl, Or.inr rfl, Or.inr rfl, Or.inr rfl, Or.inr rfl, Or.inr rfl, Or.inl rfl, Or.inl rfl, trivial⟩ ?_
      exact hk120 x3 x5 _ hf
def f_X10_order_j101 (k52 : Int32 → Int32 → Option (Int32 × MH)) (k120 : Int32 → Int32 → Option (Int32 × MH)) (h : MH) (a0 : Nat) (x2 : Int32) (x3 : Int32) (x4 : Int32) (x5 : Int32) (x6 : Int32) : Option (Int32 × MH) := f_X10_order_j102 (fun x3f52 x5f52 => k52 x3f52 x5f52) (fun x3f120 x5f120 => k120 x3f120 x5f120) h a0 x2 x3 x4 x5 x6 (0 : Int32)
set_option maxRecDepth 20000 in
theorem j_X10_order_101 {G : GG} {k52 : Int32 → Int32 → Option (Int32 × MH)} {k120 : Int32 → Int32 → Option (Int32 × MH)} {h : MH} {a0 : Nat} {x2 : Int32} {x3 : Int32} {x4 : Int32} {x5 : Int32} {x6 : Int32} {r : (Int32 × MH)} (hk52 : ∀ (x3z : Int32) (x5z : Int32) (r : (Int32 × MH)), k52 x3z x5z = some r → Ev G 11 M_X10_order 52 [some (.ref a0), none, some (.int x2), some (.int x3z), some (.int x4), some (.int x5z), none, none] [] h (some (.int r.1)) r.2) (hk120 : ∀ (x3z : Int32) (x5z : Int32) (r : (Int32 × MH)), k120 x3z x5z = some r → Ev G 11 M_X10_order 120 [some (.ref a0), none, some (.int x2), some (.int x3z), some (.int x4), some (.int x5z), none, none] [] h (some (.int r.1)) r.2) (hf : f_X10_order_j101 k52 k120 h a0 x2 x3 x4 x5 x6 = some r) : Ev G 11 M_X10_order 101 [some (.ref a0), none, some (.int x2), some (.int x3), some (.int x4), some (.int x5), some (.int x6), none] [] h (some (.int r.1)) r.2 := by
  unfold f_X10_order_j101 at hf
  refine ev_iconst i_X10_order_101 lt_i_0 ?_
  exact j_X10_order_102 (fun x3f52 x5f52 r hf => by
    exact hk52 x3f52 x5f52 _ hf) (fun x3f120 x5f120 r hf => by
    exact hk120 x3f120 x5f120 _ hf) hf
def f_X10_order_L52 (k120 : Int32 → Int32 → Option (Int32 × MH)) (h : MH) (a0 : Nat) (x2 : Int32) (x4 : Int32) : Nat → Int32 → Int32 → Option (Int32 × MH)
  | 0, _, _ => none
  | n + 1, x3, x5 => (if (x4 ||| ((1 : Int32) <<< (x5 &&& 31))) = x4 then (f_X10_order_j101 (fun x3f52 x5f52 => f_X10_order_L52 k120 h a0 x2 x4 n x3f52 x5f52) (fun x3f120 x5f120 => k120 x3f120 x5f120) h a0 x2 x3 x4 x5 (x4 ||| ((1 : Int32) <<< (x5 &&& 31)))) else ((if ((x4 ||| ((1 : Int32) <<< (x5 &&& 31))) &&& (x2 ^^^ (-1 : Int32))) = 0 then ((gR h a0 10 22).bind fun b78 => (aZ h b78 x4).bind fun v83 => (if v83 = 0 then (f_X10_order_j101 (fun x3f52 x5f52 => f_X10_order_L52 k120 h a0 x2 x4 n x3f52 x5f52) (fun x3f120 x5f120 => k120 x3f120 x5f120) h a0 x2 x3 x4 x5 (x4 ||| ((1 : Int32) <<< (x5 &&& 31)))) else ((gR h a0 10 22).bind fun b88 => (aZ h b88 (x4 ||| ((1 : Int32) <<< (x5 &&& 31)))).bind fun v93 => (if v93 = 0 then (f_X10_order_j101 (fun x3f52 x5f52 => f_X10_order_L52 k120 h a0 x2 x4 n x3f52 x5f52) (fun x3f120 x5f120 => k120 x3f120 x5f120) h a0 x2 x3 x4 x5 (x4 ||| ((1 : Int32) <<< (x5 &&& 31)))) else (f_X10_order_j102 (fun x3f52 x5f52 => f_X10_order_L52 k120 h a0 x2 x4 n x3f52 x5f52) (fun x3f120 x5f120 => k120 x3f120 x5f120) h a0 x2 x3 x4 x5 (x4 ||| ((1 : Int32) <<< (x5 &&& 31))) (1 : Int32)))))) else (f_X10_order_j101 (fun x3f52 x5f52 => f_X10_order_L52 k120 h a0 x2 x4 n x3f52 x5f52) (fun x3f120 x5f120 => k120 x3f120 x5f120) h a0 x2 x3 x4 x5 (x4 ||| ((1 : Int32) <<< (x5 &&& 31)))))))
set_option maxRecDepth 20000 in
theorem l_X10_order_52 {G : GG} {k120 : Int32 → Int32 → Option (Int32 × MH)} {h : MH} {a0 : Nat} {x2 : Int32} {x4 : Int32} (hk120 : ∀ (x3z : Int32) (x5z : Int32) (r : (Int32 × MH)), k120 x3z x5z = some r → Ev G 11 M_X10_order 120 [some (.ref a0), none, some (.int x2), some (.int x3z), some (.int x4), some (.int x5z), none, none] [] h (some (.int r.1)) r.2) : ∀ (n : Nat) (x3 : Int32) (x5 : Int32) (r : (Int32 × MH)), f_X10_order_L52 k120 h a0 x2 x4 n x3 x5 = some r → Ev G 11 M_X10_order 52 [some (.ref a0), none, some (.int x2), some (.int x3), some (.int x4), some (.int x5), none, none] [] h (some (.int r.1)) r.2 := by
  intro n
  induction n with
  | zero => intro x3 x5 r hf; rw [f_X10_order_L52] at hf; cases hf
  | succ n ih =>
    intro x3 x5 r hf
    rw [f_X10_order_L52] at hf
    refine ev_iload i_X10_order_52 rfl ?_
    refine ev_iconst i_X10_order_54 lt_i_1 ?_
    refine ev_iload i_X10_order_55 rfl ?_
    refine ev_ishl i_X10_order_57 ?_
    refine ev_ior i_X10_order_58 ?_
    refine ev_istore i_X10_order_59 (by decide) ?_
    refine ev_iload i_X10_order_61 rfl ?_
    refine ev_iload i_X10_order_63 rfl ?_
    refine ev_icmp_eq (tg := 101) i_X10_order_65 (by decide) (fun c65 => ?_) (fun c65 => ?_)
    · rw [if_pos c65] at hf
      exact j_X10_order_101 (fun x3f52 x5f52 r hf => by
        exact ih x3f52 x5f52 _ hf) (fun x3f120 x5f120 r hf => by
        exact hk120 x3f120 x5f120 _ hf) hf
    · rw [if_neg c65] at hf
      refine ev_iload i_X10_order_68 rfl ?_
      refine ev_iload_n i_X10_order_70 rfl ?_
      refine ev_iconst i_X10_order_71 lt_i_m1 ?_
      refine ev_ixor i_X10_order_72 ?_
      refine ev_iand i_X10_order_73 ?_
      refine ev_if_ne (tg := 101) i_X10_order_74 (by decide) (fun c74 => ?_) (fun c74 => ?_)
      · rw [if_neg c74] at hf
        exact j_X10_order_101 (fun x3f52 x5f52 r hf => by
          exact ih x3f52 x5f52 _ hf) (fun x3f120 x5f120 r hf => by
          exact hk120 x3f120 x5f120 _ hf) hf
      · rw [if_pos c74] at hf
        refine ev_aload_n i_X10_order_77 rfl ?_
        obtain ⟨b78, e78, hf⟩ := ob hf
        refine ev_gR i_X10_order_78 fl_X10_44 rfl e78 ?_
        refine ev_iload i_X10_order_81 rfl ?_
        obtain ⟨v83, e83, hf⟩ := ob hf
        refine ev_aZ i_X10_order_83 e83 ?_
        refine ev_if_eq (tg := 101) i_X10_order_84 (by decide) (fun c84 => ?_) (fun c84 => ?_)
        · rw [if_pos c84] at hf
          exact j_X10_order_101 (fun x3f52 x5f52 r hf => by
            exact ih x3f52 x5f52 _ hf) (fun x3f120 x5f120 r hf => by
            exact hk120 x3f120 x5f120 _ hf) hf
        · rw [if_neg c84] at hf
          refine ev_aload_n i_X10_order_87 rfl ?_
          obtain ⟨b88, e88, hf⟩ := ob hf
          refine ev_gR i_X10_order_88 fl_X10_44 rfl e88 ?_
          refine ev_iload i_X10_order_91 rfl ?_
          obtain ⟨v93, e93, hf⟩ := ob hf
          refine ev_aZ i_X10_order_93 e93 ?_
          refine ev_if_eq (tg := 101) i_X10_order_94 (by decide) (fun c94 => ?_) (fun c94 => ?_)
          · rw [if_pos c94] at hf
            exact j_X10_order_101 (fun x3f52 x5f52 r hf => by
              exact ih x3f52 x5f52 _ hf) (fun x3f120 x5f120 r hf => by
              exact hk120 x3f120 x5f120 _ hf) hf
          · rw [if_neg c94] at hf
            refine ev_iconst i_X10_order_97 lt_i_1 ?_
            refine ev_goto (tg := 102) i_X10_order_98 (by decide) ?_
            exact j_X10_order_102 (fun x3f52 x5f52 r hf => by
              exact ih x3f52 x5f52 _ hf) (fun x3f120 x5f120 r hf => by
              exact hk120 x3f120 x5f120 _ hf) hf
def f_X10_order_L43 (k183 : MH → Option (Int32 × MH)) (a0 : Nat) (x2 : Int32) : Nat → MH → Int32 → Int32 → Option (Int32 × MH)
  | 0, _, _, _ => none
  | n + 1, h, x3, x4 => (if x4 = x2 then (k183 h) else (f_X10_order_L52 (fun x3e120 x5e120 => (gR h a0 10 25).bind fun b149 => (gI h a0 10 24).bind fun v153 => (sI h b149 v153 ((1 : Int32) <<< (x5e120 &&& 31))).bind fun h160 => (gI h160 a0 10 24).bind fun v163 => (pI h160 a0 10 24 (v163 + (1 : Int32))).bind fun h168 => f_X10_order_L43 k183 a0 x2 n h168 x3e120 (x4 ||| ((1 : Int32) <<< (x5e120 &&& 31)))) h a0 x2 x4 fuel x3 (0 : Int32)))
set_option maxRecDepth 20000 in
theorem l_X10_order_43 {G : GG} {k183 : MH → Option (Int32 × MH)} {a0 : Nat} {x2 : Int32} (hk183 : ∀ (hz : MH) (r : (Int32 × MH)), k183 hz = some r → Ev G 11 M_X10_order 183 [none, none, none, none, none, none, none, none] [] hz (some (.int r.1)) r.2) : ∀ (n : Nat) (h : MH) (x3 : Int32) (x4 : Int32) (r : (Int32 × MH)), f_X10_order_L43 k183 a0 x2 n h x3 x4 = some r → Ev G 11 M_X10_order 43 [some (.ref a0), none, some (.int x2), some (.int x3), some (.int x4), none, none, none] [] h (some (.int r.1)) r.2 := by
  intro n
  induction n with
  | zero => intro h x3 x4 r hf; rw [f_X10_order_L43] at hf; cases hf
  | succ n ih =>
    intro h x3 x4 r hf
    rw [f_X10_order_L43] at hf
    refine ev_iload i_X10_order_43 rfl ?_
    refine ev_iload_n i_X10_order_45 rfl ?_
    refine ev_icmp_eq (tg := 183) i_X10_order_46 (by decide) (fun c46 => ?_) (fun c46 => ?_)
    · rw [if_pos c46] at hf
      refine ev_sub (lc2 := [none, none, none, none, none, none, none, none]) ⟨Or.inl rfl, Or.inr rfl, Or.inl rfl, Or.inl rfl, Or.inl rfl, Or.inr rfl, Or.inr rfl, Or.inr rfl, trivial⟩ ?_
      exact hk183 h _ hf
    · rw [if_neg c46] at hf
      refine ev_iconst i_X10_order_49 lt_i_0 ?_
      refine ev_istore i_X10_order_50 (by decide) ?_
      exact l_X10_order_52 (fun x3e120 x5e120 r hf => by
        refine ev_goto (tg := 148) i_X10_order_120 (by decide) ?_
        refine ev_aload_n i_X10_order_148 rfl ?_
        obtain ⟨b149, e149, hf⟩ := ob hf
        refine ev_gR i_X10_order_149 fl_X10_51 rfl e149 ?_
        refine ev_aload_n i_X10_order_152 rfl ?_
        obtain ⟨v153, e153, hf⟩ := ob hf
        refine ev_gI i_X10_order_153 fl_X10_162 rfl e153 ?_
        refine ev_iconst i_X10_order_156 lt_i_1 ?_
        refine ev_iload i_X10_order_157 rfl ?_
        refine ev_ishl i_X10_order_159 ?_
        obtain ⟨h160, e160, hf⟩ := ob hf
        refine ev_sI i_X10_order_160 e160 ?_
        refine ev_aload_n i_X10_order_161 rfl ?_
        refine ev_dup i_X10_order_162 ?_
        obtain ⟨v163, e163, hf⟩ := ob hf
        refine ev_gI i_X10_order_163 fl_X10_162 rfl e163 ?_
        refine ev_iconst i_X10_order_166 lt_i_1 ?_
        refine ev_iadd i_X10_order_167 ?_
        obtain ⟨h168, e168, hf⟩ := ob hf
        refine ev_pI i_X10_order_168 fp_X10_order_162 rfl e168 ?_
        refine ev_iload i_X10_order_171 rfl ?_
        refine ev_iconst i_X10_order_173 lt_i_1 ?_
        refine ev_iload i_X10_order_174 rfl ?_
        refine ev_ishl i_X10_order_176 ?_
        refine ev_ior i_X10_order_177 ?_
        refine ev_istore i_X10_order_178 (by decide) ?_
        refine ev_goto (tg := 43) i_X10_order_180 (by decide) ?_
        refine ev_sub (lc2 := [some (.ref a0), none, some (.int x2), some (.int x3e120), some (.int (x4 ||| ((1 : Int32) <<< (x5e120 &&& 31)))), none, none, none]) ⟨Or.inr rfl, Or.inr rfl, Or.inr rfl, Or.inr rfl, Or.inr rfl, Or.inl rfl, Or.inr rfl, Or.inr rfl, trivial⟩ ?_
        exact ih h168 x3e120 (x4 ||| ((1 : Int32) <<< (x5e120 &&& 31))) _ hf) fuel x3 (0 : Int32) _ hf
def f_X10_order (h : MH) (a0 : Nat) (x1 : Int32) : Option (Int32 × MH) := gK h a0 10 ((f_X10_unlike h a0).bind fun v1 => (f_X10_ways h a0 v1).bind fun h7 => (gR h7 a0 10 27).bind fun b13 => (aI h7 b13 (0 : Int32)).bind fun v17 => (f_X10_isIn h7 x1 (0 : Int32) (v17 - (1 : Int32))).bind fun v20 => (if v20 = 0 then (some ((0 : Int32), h7)) else ((pZ h7 a0 10 28 (0 : Int32)).bind fun h30 => (pI h30 a0 10 24 (0 : Int32)).bind fun h35 => f_X10_order_L43 (fun he183 => some ((1 : Int32), he183)) a0 v1 fuel h35 x1 (0 : Int32))))
set_option maxRecDepth 20000 in
theorem e_X10_order {G : GG} {h : MH} {a0 : Nat} {x1 : Int32} {r : (Int32 × MH)} (hf : f_X10_order h a0 x1 = some r) : Ev G 11 M_X10_order 0 (ent M_X10_order [.ref a0, .int x1]) [] h (some (.int r.1)) r.2 := by
  unfold f_X10_order at hf
  show Ev G 11 M_X10_order 0 [some (.ref a0), some (.int x1), none, none, none, none, none, none] [] h (some (.int r.1)) r.2
  obtain ⟨-, hf⟩ := gK_of hf
  refine ev_aload_n i_X10_order_0 rfl ?_
  obtain ⟨v1, e1, hf⟩ := ob hf
  refine ev_cV_i i_X10_order_1 lk_X10_order_177 [] rfl rfl (by decide) (gK_of e1).1.1 (gK_of e1).1.2 (Nat.le_of_ble_eq_true rfl) (by decide) (e_X10_unlike e1) ?_
  refine ev_istore_n i_X10_order_4 (by decide) ?_
  refine ev_aload_n i_X10_order_5 rfl ?_
  refine ev_iload_n i_X10_order_6 rfl ?_
  obtain ⟨h7, e7, hf⟩ := ob hf
  refine ev_cV_v i_X10_order_7 lk_X10_order_192 [.int v1] rfl rfl (by decide) (gK_of e7).1.1 (gK_of e7).1.2 (Nat.le_of_ble_eq_true rfl) (by decide) (e_X10_ways e7) ?_
  refine ev_iload_n i_X10_order_10 rfl ?_
  refine ev_iconst i_X10_order_11 lt_i_0 ?_
  refine ev_aload_n i_X10_order_12 rfl ?_
  obtain ⟨b13, e13, hf⟩ := ob hf
  refine ev_gR i_X10_order_13 fl_X10_57 rfl e13 ?_
  refine ev_iconst i_X10_order_16 lt_i_0 ?_
  obtain ⟨v17, e17, hf⟩ := ob hf
  refine ev_aI i_X10_order_17 e17 ?_
  refine ev_iconst i_X10_order_18 lt_i_1 ?_
  refine ev_isub i_X10_order_19 ?_
  obtain ⟨v20, e20, hf⟩ := ob hf
  refine ev_cS_i i_X10_order_20 lk_X10_order_94 [.int x1, .int (0 : Int32), .int (v17 - (1 : Int32))] rfl rfl (by decide) (Nat.le_of_ble_eq_true rfl) (by decide) (e_X10_isIn e20) ?_
  refine ev_if_ne (tg := 28) i_X10_order_23 (by decide) (fun c23 => ?_) (fun c23 => ?_)
  · rw [if_neg c23] at hf
    refine ev_aload_n i_X10_order_28 rfl ?_
    refine ev_iconst i_X10_order_29 lt_i_0 ?_
    obtain ⟨h30, e30, hf⟩ := ob hf
    refine ev_pZ i_X10_order_30 fp_X10_order_165 rfl e30 ?_
    refine ev_aload_n i_X10_order_33 rfl ?_
    refine ev_iconst i_X10_order_34 lt_i_0 ?_
    obtain ⟨h35, e35, hf⟩ := ob hf
    refine ev_pI i_X10_order_35 fp_X10_order_162 rfl e35 ?_
    refine ev_iload_n i_X10_order_38 rfl ?_
    refine ev_istore_n i_X10_order_39 (by decide) ?_
    refine ev_iconst i_X10_order_40 lt_i_0 ?_
    refine ev_istore i_X10_order_41 (by decide) ?_
    refine ev_sub (lc2 := [some (.ref a0), none, some (.int v1), some (.int x1), some (.int (0 : Int32)), none, none, none]) ⟨Or.inr rfl, Or.inl rfl, Or.inr rfl, Or.inr rfl, Or.inr rfl, Or.inr rfl, Or.inr rfl, Or.inr rfl, trivial⟩ ?_
    exact l_X10_order_43 (fun he183 r hf => by
      refine ev_iconst i_X10_order_183 lt_i_1 ?_
      cases hf
      exact ev_zret i_X10_order_184 rfl (by decide)) fuel h35 x1 (0 : Int32) _ hf
  · rw [if_pos c23] at hf
    refine ev_iconst i_X10_order_26 lt_i_0 ?_
    cases hf
    exact ev_zret i_X10_order_27 rfl (by decide)
def f_X10_round (h : MH) (a0 : Nat) (x1 : Int32) : Option (Int32 × MH) := gK h a0 10 ((if x1 ≤ 0 then (some ((-1 : Int32), h)) else ((f_X10_unlike h a0).bind fun v6 => (if (x1 &&& (v6 ^^^ (-1 : Int32))) = 0 then ((gI h a0 10 24).bind fun v18 => (f_X10_planned h a0 v18).bind fun v21 => (if (x1 &&& v21) = 0 then ((pZ h a0 10 28 (0 : Int32)).bind fun h32 => (gR h32 a0 10 25).bind fun b36 => (gI h32 a0 10 24).bind fun v40 => (sI h32 b36 v40 x1).bind fun h44 => (gI h44 a0 10 24).bind fun v47 => (pI h44 a0 10 24 (v47 + (1 : Int32))).bind fun h52 => (gI h52 a0 10 24).bind fun v56 => some (v56, h52)) else (some ((-1 : Int32), h)))) else (some ((-1 : Int32), h))))))
set_option maxRecDepth 20000 in
theorem e_X10_round {G : GG} {h : MH} {a0 : Nat} {x1 : Int32} {r : (Int32 × MH)} (hf : f_X10_round h a0 x1 = some r) : Ev G 2 M_X10_round 0 (ent M_X10_round [.ref a0, .int x1]) [] h (some (.int r.1)) r.2 := by
  unfold f_X10_round at hf
  show Ev G 2 M_X10_round 0 [some (.ref a0), some (.int x1)] [] h (some (.int r.1)) r.2
  obtain ⟨-, hf⟩ := gK_of hf
  refine ev_iload_n i_X10_round_0 rfl ?_
  refine ev_if_le (tg := 28) i_X10_round_1 (by decide) (fun c1 => ?_) (fun c1 => ?_)
  · rw [if_pos c1] at hf
    refine ev_iconst i_X10_round_28 lt_i_m1 ?_
    cases hf
    exact ev_iiret i_X10_round_29 rfl
  · rw [if_neg c1] at hf
    refine ev_iload_n i_X10_round_4 rfl ?_
    refine ev_aload_n i_X10_round_5 rfl ?_
    obtain ⟨v6, e6, hf⟩ := ob hf
    refine ev_cV_i i_X10_round_6 lk_X10_round_177 [] rfl rfl (by decide) (gK_of e6).1.1 (gK_of e6).1.2 (Nat.le_of_ble_eq_true rfl) (by decide) (e_X10_unlike e6) ?_
    refine ev_iconst i_X10_round_9 lt_i_m1 ?_
    refine ev_ixor i_X10_round_10 ?_
    refine ev_iand i_X10_round_11 ?_
    refine ev_if_ne (tg := 28) i_X10_round_12 (by decide) (fun c12 => ?_) (fun c12 => ?_)
    · rw [if_neg c12] at hf
      refine ev_iconst i_X10_round_28 lt_i_m1 ?_
      cases hf
      exact ev_iiret i_X10_round_29 rfl
    · rw [if_pos c12] at hf
      refine ev_iload_n i_X10_round_15 rfl ?_
      refine ev_aload_n i_X10_round_16 rfl ?_
      refine ev_aload_n i_X10_round_17 rfl ?_
      obtain ⟨v18, e18, hf⟩ := ob hf
      refine ev_gI i_X10_round_18 fl_X10_162 rfl e18 ?_
      obtain ⟨v21, e21, hf⟩ := ob hf
      refine ev_cV_i i_X10_round_21 lk_X10_round_183 [.int v18] rfl rfl (by decide) (gK_of e21).1.1 (gK_of e21).1.2 (Nat.le_of_ble_eq_true rfl) (by decide) (e_X10_planned e21) ?_
      refine ev_iand i_X10_round_24 ?_
      refine ev_if_eq (tg := 30) i_X10_round_25 (by decide) (fun c25 => ?_) (fun c25 => ?_)
      · rw [if_pos c25] at hf
        refine ev_aload_n i_X10_round_30 rfl ?_
        refine ev_iconst i_X10_round_31 lt_i_0 ?_
        obtain ⟨h32, e32, hf⟩ := ob hf
        refine ev_pZ i_X10_round_32 fp_X10_round_165 rfl e32 ?_
        refine ev_aload_n i_X10_round_35 rfl ?_
        obtain ⟨b36, e36, hf⟩ := ob hf
        refine ev_gR i_X10_round_36 fl_X10_51 rfl e36 ?_
        refine ev_aload_n i_X10_round_39 rfl ?_
        obtain ⟨v40, e40, hf⟩ := ob hf
        refine ev_gI i_X10_round_40 fl_X10_162 rfl e40 ?_
        refine ev_iload_n i_X10_round_43 rfl ?_
        obtain ⟨h44, e44, hf⟩ := ob hf
        refine ev_sI i_X10_round_44 e44 ?_
        refine ev_aload_n i_X10_round_45 rfl ?_
        refine ev_dup i_X10_round_46 ?_
        obtain ⟨v47, e47, hf⟩ := ob hf
        refine ev_gI i_X10_round_47 fl_X10_162 rfl e47 ?_
        refine ev_iconst i_X10_round_50 lt_i_1 ?_
        refine ev_iadd i_X10_round_51 ?_
        obtain ⟨h52, e52, hf⟩ := ob hf
        refine ev_pI i_X10_round_52 fp_X10_round_162 rfl e52 ?_
        refine ev_aload_n i_X10_round_55 rfl ?_
        obtain ⟨v56, e56, hf⟩ := ob hf
        refine ev_gI i_X10_round_56 fl_X10_162 rfl e56 ?_
        cases hf
        exact ev_iiret i_X10_round_59 rfl
      · rw [if_neg c25] at hf
        refine ev_iconst i_X10_round_28 lt_i_m1 ?_
        cases hf
        exact ev_iiret i_X10_round_29 rfl
def f_X10_empty (h : MH) (a0 : Nat) : Option MH := gK h a0 10 ((pI h a0 10 24 (0 : Int32)).bind fun h2 => (pZ h2 a0 10 28 (0 : Int32)).bind fun h7 => some h7)
set_option maxRecDepth 20000 in
theorem e_X10_empty {G : GG} {h : MH} {a0 : Nat} {r : MH} (hf : f_X10_empty h a0 = some r) : Ev G 0 M_X10_empty 0 (ent M_X10_empty [.ref a0]) [] h none r := by
  unfold f_X10_empty at hf
  show Ev G 0 M_X10_empty 0 [some (.ref a0)] [] h none r
  obtain ⟨-, hf⟩ := gK_of hf
  refine ev_aload_n i_X10_empty_0 rfl ?_
  refine ev_iconst i_X10_empty_1 lt_i_0 ?_
  obtain ⟨h2, e2, hf⟩ := ob hf
  refine ev_pI i_X10_empty_2 fp_X10_empty_162 rfl e2 ?_
  refine ev_aload_n i_X10_empty_5 rfl ?_
  refine ev_iconst i_X10_empty_6 lt_i_0 ?_
  obtain ⟨h7, e7, hf⟩ := ob hf
  refine ev_pZ i_X10_empty_7 fp_X10_empty_165 rfl e7 ?_
  cases hf
  exact ev_vret i_X10_empty_10 rfl
def f_X10_plan (h : MH) (a0 : Nat) (x1 : Int32) : Option Int32 := gK h a0 10 ((gI h a0 10 24).bind fun v3 => (f_X10_isIn h x1 (0 : Int32) (v3 - (1 : Int32))).bind fun v8 => (if v8 = 0 then (some (-1 : Int32)) else ((gR h a0 10 25).bind fun b15 => (aI h b15 x1).bind fun v19 => some v19)))
set_option maxRecDepth 20000 in
theorem e_X10_plan {G : GG} {h : MH} {a0 : Nat} {x1 : Int32} {r : Int32} (hf : f_X10_plan h a0 x1 = some r) : Ev G 1 M_X10_plan 0 (ent M_X10_plan [.ref a0, .int x1]) [] h (some (.int r)) h := by
  unfold f_X10_plan at hf
  show Ev G 1 M_X10_plan 0 [some (.ref a0), some (.int x1)] [] h (some (.int r)) h
  obtain ⟨-, hf⟩ := gK_of hf
  refine ev_iload_n i_X10_plan_0 rfl ?_
  refine ev_iconst i_X10_plan_1 lt_i_0 ?_
  refine ev_aload_n i_X10_plan_2 rfl ?_
  obtain ⟨v3, e3, hf⟩ := ob hf
  refine ev_gI i_X10_plan_3 fl_X10_162 rfl e3 ?_
  refine ev_iconst i_X10_plan_6 lt_i_1 ?_
  refine ev_isub i_X10_plan_7 ?_
  obtain ⟨v8, e8, hf⟩ := ob hf
  refine ev_cS_i i_X10_plan_8 lk_X10_plan_94 [.int x1, .int (0 : Int32), .int (v3 - (1 : Int32))] rfl rfl (by decide) (Nat.le_of_ble_eq_true rfl) (by decide) (e_X10_isIn e8) ?_
  refine ev_if_eq (tg := 23) i_X10_plan_11 (by decide) (fun c11 => ?_) (fun c11 => ?_)
  · rw [if_pos c11] at hf
    refine ev_iconst i_X10_plan_23 lt_i_m1 ?_
    cases hf
    exact ev_iiret i_X10_plan_24 rfl
  · rw [if_neg c11] at hf
    refine ev_aload_n i_X10_plan_14 rfl ?_
    obtain ⟨b15, e15, hf⟩ := ob hf
    refine ev_gR i_X10_plan_15 fl_X10_51 rfl e15 ?_
    refine ev_iload_n i_X10_plan_18 rfl ?_
    obtain ⟨v19, e19, hf⟩ := ob hf
    refine ev_aI i_X10_plan_19 e19 ?_
    refine ev_goto (tg := 24) i_X10_plan_20 (by decide) ?_
    cases hf
    exact ev_iiret i_X10_plan_24 rfl
def f_X10_mid (h : MH) (a0 : Nat) (x1 : Int32) : Option (Int32 × MH) := gK h a0 10 ((gI h a0 10 24).bind fun v3 => (f_X10_isIn h x1 (0 : Int32) (v3 - (1 : Int32))).bind fun v8 => (if v8 = 0 then (some ((-1 : Int32), h)) else ((f_X10_planned h a0 x1).bind fun v17 => (gR h a0 10 25).bind fun b21 => (aI h b21 x1).bind fun v25 => (f_X10_against h a0 v17 v25).bind fun r26 => some (r26.1, r26.2))))
set_option maxRecDepth 20000 in
theorem e_X10_mid {G : GG} {h : MH} {a0 : Nat} {x1 : Int32} {r : (Int32 × MH)} (hf : f_X10_mid h a0 x1 = some r) : Ev G 11 M_X10_mid 0 (ent M_X10_mid [.ref a0, .int x1]) [] h (some (.int r.1)) r.2 := by
  unfold f_X10_mid at hf
  show Ev G 11 M_X10_mid 0 [some (.ref a0), some (.int x1)] [] h (some (.int r.1)) r.2
  obtain ⟨-, hf⟩ := gK_of hf
  refine ev_iload_n i_X10_mid_0 rfl ?_
  refine ev_iconst i_X10_mid_1 lt_i_0 ?_
  refine ev_aload_n i_X10_mid_2 rfl ?_
  obtain ⟨v3, e3, hf⟩ := ob hf
  refine ev_gI i_X10_mid_3 fl_X10_162 rfl e3 ?_
  refine ev_iconst i_X10_mid_6 lt_i_1 ?_
  refine ev_isub i_X10_mid_7 ?_
  obtain ⟨v8, e8, hf⟩ := ob hf
  refine ev_cS_i i_X10_mid_8 lk_X10_mid_94 [.int x1, .int (0 : Int32), .int (v3 - (1 : Int32))] rfl rfl (by decide) (Nat.le_of_ble_eq_true rfl) (by decide) (e_X10_isIn e8) ?_
  refine ev_if_eq (tg := 32) i_X10_mid_11 (by decide) (fun c11 => ?_) (fun c11 => ?_)
  · rw [if_pos c11] at hf
    refine ev_iconst i_X10_mid_32 lt_i_m1 ?_
    cases hf
    exact ev_iiret i_X10_mid_33 rfl
  · rw [if_neg c11] at hf
    refine ev_aload_n i_X10_mid_14 rfl ?_
    refine ev_aload_n i_X10_mid_15 rfl ?_
    refine ev_iload_n i_X10_mid_16 rfl ?_
    obtain ⟨v17, e17, hf⟩ := ob hf
    refine ev_cV_i i_X10_mid_17 lk_X10_mid_183 [.int x1] rfl rfl (by decide) (gK_of e17).1.1 (gK_of e17).1.2 (Nat.le_of_ble_eq_true rfl) (by decide) (e_X10_planned e17) ?_
    refine ev_aload_n i_X10_mid_20 rfl ?_
    obtain ⟨b21, e21, hf⟩ := ob hf
    refine ev_gR i_X10_mid_21 fl_X10_51 rfl e21 ?_
    refine ev_iload_n i_X10_mid_24 rfl ?_
    obtain ⟨v25, e25, hf⟩ := ob hf
    refine ev_aI i_X10_mid_25 e25 ?_
    obtain ⟨r26, e26, hf⟩ := ob hf
    refine ev_cV_i i_X10_mid_26 lk_X10_mid_187 [.int v17, .int v25] rfl rfl (by decide) (gK_of e26).1.1 (gK_of e26).1.2 (Nat.le_of_ble_eq_true rfl) (by decide) (e_X10_against e26) ?_
    refine ev_goto (tg := 33) i_X10_mid_29 (by decide) ?_
    cases hf
    exact ev_iiret i_X10_mid_33 rfl
def f_X10_begin (h : MH) (a0 : Nat) : Option (Int32 × MH) := gK h a0 10 ((gI h a0 10 24).bind fun v1 => (if v1 = 0 then (some ((0 : Int32), h)) else ((pZ h a0 10 28 (1 : Int32)).bind fun h11 => (pI h11 a0 10 29 (0 : Int32)).bind fun h16 => (pI h16 a0 10 30 (0 : Int32)).bind fun h21 => (pI h21 a0 10 31 (0 : Int32)).bind fun h26 => (pI h26 a0 10 32 (0 : Int32)).bind fun h31 => some ((1 : Int32), h31))))
set_option maxRecDepth 20000 in
theorem e_X10_begin {G : GG} {h : MH} {a0 : Nat} {r : (Int32 × MH)} (hf : f_X10_begin h a0 = some r) : Ev G 0 M_X10_begin 0 (ent M_X10_begin [.ref a0]) [] h (some (.int r.1)) r.2 := by
  unfold f_X10_begin at hf
  show Ev G 0 M_X10_begin 0 [some (.ref a0)] [] h (some (.int r.1)) r.2
  obtain ⟨-, hf⟩ := gK_of hf
  refine ev_aload_n i_X10_begin_0 rfl ?_
  obtain ⟨v1, e1, hf⟩ := ob hf
  refine ev_gI i_X10_begin_1 fl_X10_162 rfl e1 ?_
  refine ev_if_ne (tg := 9) i_X10_begin_4 (by decide) (fun c4 => ?_) (fun c4 => ?_)
  · rw [if_neg c4] at hf
    refine ev_aload_n i_X10_begin_9 rfl ?_
    refine ev_iconst i_X10_begin_10 lt_i_1 ?_
    obtain ⟨h11, e11, hf⟩ := ob hf
    refine ev_pZ i_X10_begin_11 fp_X10_begin_165 rfl e11 ?_
    refine ev_aload_n i_X10_begin_14 rfl ?_
    refine ev_iconst i_X10_begin_15 lt_i_0 ?_
    obtain ⟨h16, e16, hf⟩ := ob hf
    refine ev_pI i_X10_begin_16 fp_X10_begin_194 rfl e16 ?_
    refine ev_aload_n i_X10_begin_19 rfl ?_
    refine ev_iconst i_X10_begin_20 lt_i_0 ?_
    obtain ⟨h21, e21, hf⟩ := ob hf
    refine ev_pI i_X10_begin_21 fp_X10_begin_197 rfl e21 ?_
    refine ev_aload_n i_X10_begin_24 rfl ?_
    refine ev_iconst i_X10_begin_25 lt_i_0 ?_
    obtain ⟨h26, e26, hf⟩ := ob hf
    refine ev_pI i_X10_begin_26 fp_X10_begin_200 rfl e26 ?_
    refine ev_aload_n i_X10_begin_29 rfl ?_
    refine ev_iconst i_X10_begin_30 lt_i_0 ?_
    obtain ⟨h31, e31, hf⟩ := ob hf
    refine ev_pI i_X10_begin_31 fp_X10_begin_203 rfl e31 ?_
    refine ev_iconst i_X10_begin_34 lt_i_1 ?_
    cases hf
    exact ev_zret i_X10_begin_35 rfl (by decide)
  · rw [if_pos c4] at hf
    refine ev_iconst i_X10_begin_7 lt_i_0 ?_
    cases hf
    exact ev_zret i_X10_begin_8 rfl (by decide)
def f_X10_send (h : MH) (a0 : Nat) (x1 : Int32) (x2 : Int32) : Option (Int32 × MH) := gK h a0 10 ((gI h a0 10 28).bind fun v1 => (if v1 = 0 then (some ((-1 : Int32), h)) else ((gI h a0 10 1).bind fun v10 => (f_X10_isIn h x1 (0 : Int32) (v10 - (1 : Int32))).bind fun v15 => (if v15 = 0 then (some ((-1 : Int32), h)) else ((f_X10_isIn h x2 (0 : Int32) (15 : Int32)).bind fun v25 => (if v25 = 0 then (some ((-1 : Int32), h)) else ((gI h a0 10 31).bind fun v32 => (if v32 = (40 : Int32) then (some ((-1 : Int32), h)) else ((gI h a0 10 31).bind fun v43 => (gI h a0 10 31).bind fun v49 => (pI h a0 10 31 (v49 + (1 : Int32))).bind fun h54 => (gR h54 a0 10 33).bind fun b58 => (sI h54 b58 v43 x1).bind fun h63 => (gR h63 a0 10 34).bind fun b65 => (sI h63 b65 v43 x2).bind fun h70 => (gR h70 a0 10 36).bind fun b72 => (sI h70 b72 v43 (-1 : Int32)).bind fun h77 => (gR h77 a0 10 37).bind fun b79 => (sI h77 b79 v43 (1 : Int32)).bind fun h84 => (gR h84 a0 10 35).bind fun b86 => (gR h84 a0 10 5).bind fun b91 => (aI h84 b91 x1).bind fun v95 => (sI h84 b86 v43 (v95 / (4 : Int32))).bind fun h98 => (gR h98 a0 10 38).bind fun b100 => (gR h98 a0 10 35).bind fun b108 => (aI h98 b108 v43).bind fun v112 => (sI h98 b100 ((8 : Int32) * v43) v112).bind fun h113 => some (v43, h113))))))))))
set_option maxRecDepth 20000 in
theorem e_X10_send {G : GG} {h : MH} {a0 : Nat} {x1 : Int32} {x2 : Int32} {r : (Int32 × MH)} (hf : f_X10_send h a0 x1 x2 = some r) : Ev G 1 M_X10_send 0 (ent M_X10_send [.ref a0, .int x1, .int x2]) [] h (some (.int r.1)) r.2 := by
  unfold f_X10_send at hf
  show Ev G 1 M_X10_send 0 [some (.ref a0), some (.int x1), some (.int x2), none] [] h (some (.int r.1)) r.2
  obtain ⟨-, hf⟩ := gK_of hf
  refine ev_aload_n i_X10_send_0 rfl ?_
  obtain ⟨v1, e1, hf⟩ := ob hf
  refine ev_gI i_X10_send_1 fl_X10_165 rfl e1 ?_
  refine ev_if_eq (tg := 40) i_X10_send_4 (by decide) (fun c4 => ?_) (fun c4 => ?_)
  · rw [if_pos c4] at hf
    refine ev_iconst i_X10_send_40 lt_i_m1 ?_
    cases hf
    exact ev_iiret i_X10_send_41 rfl
  · rw [if_neg c4] at hf
    refine ev_iload_n i_X10_send_7 rfl ?_
    refine ev_iconst i_X10_send_8 lt_i_0 ?_
    refine ev_aload_n i_X10_send_9 rfl ?_
    obtain ⟨v10, e10, hf⟩ := ob hf
    refine ev_gI i_X10_send_10 fl_X10_85 rfl e10 ?_
    refine ev_iconst i_X10_send_13 lt_i_1 ?_
    refine ev_isub i_X10_send_14 ?_
    obtain ⟨v15, e15, hf⟩ := ob hf
    refine ev_cS_i i_X10_send_15 lk_X10_send_94 [.int x1, .int (0 : Int32), .int (v10 - (1 : Int32))] rfl rfl (by decide) (Nat.le_of_ble_eq_true rfl) (by decide) (e_X10_isIn e15) ?_
    refine ev_if_eq (tg := 40) i_X10_send_18 (by decide) (fun c18 => ?_) (fun c18 => ?_)
    · rw [if_pos c18] at hf
      refine ev_iconst i_X10_send_40 lt_i_m1 ?_
      cases hf
      exact ev_iiret i_X10_send_41 rfl
    · rw [if_neg c18] at hf
      refine ev_iload_n i_X10_send_21 rfl ?_
      refine ev_iconst i_X10_send_22 lt_i_0 ?_
      refine ev_bipush i_X10_send_23 lt_b_15 ?_
      obtain ⟨v25, e25, hf⟩ := ob hf
      refine ev_cS_i i_X10_send_25 lk_X10_send_94 [.int x2, .int (0 : Int32), .int (15 : Int32)] rfl rfl (by decide) (Nat.le_of_ble_eq_true rfl) (by decide) (e_X10_isIn e25) ?_
      refine ev_if_eq (tg := 40) i_X10_send_28 (by decide) (fun c28 => ?_) (fun c28 => ?_)
      · rw [if_pos c28] at hf
        refine ev_iconst i_X10_send_40 lt_i_m1 ?_
        cases hf
        exact ev_iiret i_X10_send_41 rfl
      · rw [if_neg c28] at hf
        refine ev_aload_n i_X10_send_31 rfl ?_
        obtain ⟨v32, e32, hf⟩ := ob hf
        refine ev_gI i_X10_send_32 fl_X10_200 rfl e32 ?_
        refine ev_bipush i_X10_send_35 lt_b_40 ?_
        refine ev_icmp_ne (tg := 42) i_X10_send_37 (by decide) (fun c37 => ?_) (fun c37 => ?_)
        · rw [if_neg c37] at hf
          refine ev_aload_n i_X10_send_42 rfl ?_
          obtain ⟨v43, e43, hf⟩ := ob hf
          refine ev_gI i_X10_send_43 fl_X10_200 rfl e43 ?_
          refine ev_istore_n i_X10_send_46 (by decide) ?_
          refine ev_aload_n i_X10_send_47 rfl ?_
          refine ev_dup i_X10_send_48 ?_
          obtain ⟨v49, e49, hf⟩ := ob hf
          refine ev_gI i_X10_send_49 fl_X10_200 rfl e49 ?_
          refine ev_iconst i_X10_send_52 lt_i_1 ?_
          refine ev_iadd i_X10_send_53 ?_
          obtain ⟨h54, e54, hf⟩ := ob hf
          refine ev_pI i_X10_send_54 fp_X10_send_200 rfl e54 ?_
          refine ev_aload_n i_X10_send_57 rfl ?_
          obtain ⟨b58, e58, hf⟩ := ob hf
          refine ev_gR i_X10_send_58 fl_X10_60 rfl e58 ?_
          refine ev_iload_n i_X10_send_61 rfl ?_
          refine ev_iload_n i_X10_send_62 rfl ?_
          obtain ⟨h63, e63, hf⟩ := ob hf
          refine ev_sI i_X10_send_63 e63 ?_
          refine ev_aload_n i_X10_send_64 rfl ?_
          obtain ⟨b65, e65, hf⟩ := ob hf
          refine ev_gR i_X10_send_65 fl_X10_63 rfl e65 ?_
          refine ev_iload_n i_X10_send_68 rfl ?_
          refine ev_iload_n i_X10_send_69 rfl ?_
          obtain ⟨h70, e70, hf⟩ := ob hf
          refine ev_sI i_X10_send_70 e70 ?_
          refine ev_aload_n i_X10_send_71 rfl ?_
          obtain ⟨b72, e72, hf⟩ := ob hf
          refine ev_gR i_X10_send_72 fl_X10_69 rfl e72 ?_
          refine ev_iload_n i_X10_send_75 rfl ?_
          refine ev_iconst i_X10_send_76 lt_i_m1 ?_
          obtain ⟨h77, e77, hf⟩ := ob hf
          refine ev_sI i_X10_send_77 e77 ?_
          refine ev_aload_n i_X10_send_78 rfl ?_
          obtain ⟨b79, e79, hf⟩ := ob hf
          refine ev_gR i_X10_send_79 fl_X10_72 rfl e79 ?_
          refine ev_iload_n i_X10_send_82 rfl ?_
          refine ev_iconst i_X10_send_83 lt_i_1 ?_
          obtain ⟨h84, e84, hf⟩ := ob hf
          refine ev_sI i_X10_send_84 e84 ?_
          refine ev_aload_n i_X10_send_85 rfl ?_
          obtain ⟨b86, e86, hf⟩ := ob hf
          refine ev_gR i_X10_send_86 fl_X10_66 rfl e86 ?_
          refine ev_iload_n i_X10_send_89 rfl ?_
          refine ev_aload_n i_X10_send_90 rfl ?_
          obtain ⟨b91, e91, hf⟩ := ob hf
          refine ev_gR i_X10_send_91 fl_X10_16 rfl e91 ?_
          refine ev_iload_n i_X10_send_94 rfl ?_
          obtain ⟨v95, e95, hf⟩ := ob hf
          refine ev_aI i_X10_send_95 e95 ?_
          refine ev_iconst i_X10_send_96 lt_i_4 ?_
          refine ev_idiv i_X10_send_97 (by decide) ?_
          obtain ⟨h98, e98, hf⟩ := ob hf
          refine ev_sI i_X10_send_98 e98 ?_
          refine ev_aload_n i_X10_send_99 rfl ?_
          obtain ⟨b100, e100, hf⟩ := ob hf
          refine ev_gR i_X10_send_100 fl_X10_75 rfl e100 ?_
          refine ev_bipush i_X10_send_103 lt_b_8 ?_
          refine ev_iload_n i_X10_send_105 rfl ?_
          refine ev_imul i_X10_send_106 ?_
          refine ev_aload_n i_X10_send_107 rfl ?_
          obtain ⟨b108, e108, hf⟩ := ob hf
          refine ev_gR i_X10_send_108 fl_X10_66 rfl e108 ?_
          refine ev_iload_n i_X10_send_111 rfl ?_
          obtain ⟨v112, e112, hf⟩ := ob hf
          refine ev_aI i_X10_send_112 e112 ?_
          obtain ⟨h113, e113, hf⟩ := ob hf
          refine ev_sI i_X10_send_113 e113 ?_
          refine ev_iload_n i_X10_send_114 rfl ?_
          cases hf
          exact ev_iiret i_X10_send_115 rfl
        · rw [if_pos c37] at hf
          refine ev_iconst i_X10_send_40 lt_i_m1 ?_
          cases hf
          exact ev_iiret i_X10_send_41 rfl
def f_X10_isPacket (h : MH) (a0 : Nat) (x1 : Int32) : Option Int32 := gK h a0 10 ((gI h a0 10 28).bind fun v1 => (if v1 = 0 then (some (0 : Int32)) else ((gI h a0 10 31).bind fun v10 => (f_X10_isIn h x1 (0 : Int32) (v10 - (1 : Int32))).bind fun v15 => (if v15 = 0 then (some (0 : Int32)) else (some (1 : Int32))))))
set_option maxRecDepth 20000 in
theorem e_X10_isPacket {G : GG} {h : MH} {a0 : Nat} {x1 : Int32} {r : Int32} (hf : f_X10_isPacket h a0 x1 = some r) : Ev G 1 M_X10_isPacket 0 (ent M_X10_isPacket [.ref a0, .int x1]) [] h (some (.int r)) h := by
  unfold f_X10_isPacket at hf
  show Ev G 1 M_X10_isPacket 0 [some (.ref a0), some (.int x1)] [] h (some (.int r)) h
  obtain ⟨-, hf⟩ := gK_of hf
  refine ev_aload_n i_X10_isPacket_0 rfl ?_
  obtain ⟨v1, e1, hf⟩ := ob hf
  refine ev_gI i_X10_isPacket_1 fl_X10_165 rfl e1 ?_
  refine ev_if_eq (tg := 25) i_X10_isPacket_4 (by decide) (fun c4 => ?_) (fun c4 => ?_)
  · rw [if_pos c4] at hf
    refine ev_iconst i_X10_isPacket_25 lt_i_0 ?_
    cases hf
    exact ev_zret i_X10_isPacket_26 rfl (by decide)
  · rw [if_neg c4] at hf
    refine ev_iload_n i_X10_isPacket_7 rfl ?_
    refine ev_iconst i_X10_isPacket_8 lt_i_0 ?_
    refine ev_aload_n i_X10_isPacket_9 rfl ?_
    obtain ⟨v10, e10, hf⟩ := ob hf
    refine ev_gI i_X10_isPacket_10 fl_X10_200 rfl e10 ?_
    refine ev_iconst i_X10_isPacket_13 lt_i_1 ?_
    refine ev_isub i_X10_isPacket_14 ?_
    obtain ⟨v15, e15, hf⟩ := ob hf
    refine ev_cS_i i_X10_isPacket_15 lk_X10_isPacket_94 [.int x1, .int (0 : Int32), .int (v10 - (1 : Int32))] rfl rfl (by decide) (Nat.le_of_ble_eq_true rfl) (by decide) (e_X10_isIn e15) ?_
    refine ev_if_eq (tg := 25) i_X10_isPacket_18 (by decide) (fun c18 => ?_) (fun c18 => ?_)
    · rw [if_pos c18] at hf
      refine ev_iconst i_X10_isPacket_25 lt_i_0 ?_
      cases hf
      exact ev_zret i_X10_isPacket_26 rfl (by decide)
    · rw [if_neg c18] at hf
      refine ev_iconst i_X10_isPacket_21 lt_i_1 ?_
      refine ev_goto (tg := 26) i_X10_isPacket_22 (by decide) ?_
      cases hf
      exact ev_zret i_X10_isPacket_26 rfl (by decide)
def f_X10_hop_L50 (k96 : Int32 → Option (Int32 × MH)) (h : MH) (a0 : Nat) (x1 : Int32) : Nat → Int32 → Int32 → Option (Int32 × MH)
  | 0, _, _ => none
  | n + 1, x3, x4 => (gR h a0 10 37).bind fun b53 => (aI h b53 x1).bind fun v57 => (if v57 ≤ x4 then (k96 x3) else ((if (100 : Int32) ≤ x3 then (f_X10_hop_L50 k96 h a0 x1 n x3 (x4 + (1 : Int32))) else ((gR h a0 10 38).bind fun b68 => (aI h b68 (((8 : Int32) * x1) + x4)).bind fun v78 => (if v78 = x3 then (f_X10_hop_L50 k96 h a0 x1 n (112 : Int32) (x4 + (1 : Int32))) else (f_X10_hop_L50 k96 h a0 x1 n x3 (x4 + (1 : Int32))))))))
set_option maxRecDepth 20000 in
theorem l_X10_hop_50 {G : GG} {k96 : Int32 → Option (Int32 × MH)} {h : MH} {a0 : Nat} {x1 : Int32} (hk96 : ∀ (x3z : Int32) (r : (Int32 × MH)), k96 x3z = some r → Ev G 8 M_X10_hop 96 [some (.ref a0), some (.int x1), none, some (.int x3z), none, none, none] [] h (some (.int r.1)) r.2) : ∀ (n : Nat) (x3 : Int32) (x4 : Int32) (r : (Int32 × MH)), f_X10_hop_L50 k96 h a0 x1 n x3 x4 = some r → Ev G 8 M_X10_hop 50 [some (.ref a0), some (.int x1), none, some (.int x3), some (.int x4), none, none] [] h (some (.int r.1)) r.2 := by
  intro n
  induction n with
  | zero => intro x3 x4 r hf; rw [f_X10_hop_L50] at hf; cases hf
  | succ n ih =>
    intro x3 x4 r hf
    rw [f_X10_hop_L50] at hf
    refine ev_iload i_X10_hop_50 rfl ?_
    refine ev_aload_n i_X10_hop_52 rfl ?_
    obtain ⟨b53, e53, hf⟩ := ob hf
    refine ev_gR i_X10_hop_53 fl_X10_72 rfl e53 ?_
    refine ev_iload_n i_X10_hop_56 rfl ?_
    obtain ⟨v57, e57, hf⟩ := ob hf
    refine ev_aI i_X10_hop_57 e57 ?_
    refine ev_icmp_ge (tg := 96) i_X10_hop_58 (by decide) (fun c58 => ?_) (fun c58 => ?_)
    · rw [if_pos c58] at hf
      refine ev_sub (lc2 := [some (.ref a0), some (.int x1), none, some (.int x3), none, none, none]) ⟨Or.inr rfl, Or.inr rfl, Or.inr rfl, Or.inr rfl, Or.inl rfl, Or.inr rfl, Or.inr rfl, trivial⟩ ?_
      exact hk96 x3 _ hf
    · rw [if_neg c58] at hf
      refine ev_iload_n i_X10_hop_61 rfl ?_
      refine ev_bipush i_X10_hop_62 lt_b_100 ?_
      refine ev_icmp_ge (tg := 88) i_X10_hop_64 (by decide) (fun c64 => ?_) (fun c64 => ?_)
      · rw [if_pos c64] at hf
        refine ev_iload_n i_X10_hop_88 rfl ?_
        refine ev_istore_n i_X10_hop_89 (by decide) ?_
        refine ev_iinc (y := (x4 + (1 : Int32))) i_X10_hop_90 rfl rfl (by decide) ?_
        refine ev_goto (tg := 50) i_X10_hop_93 (by decide) ?_
        exact ih x3 (x4 + (1 : Int32)) _ hf
      · rw [if_neg c64] at hf
        refine ev_aload_n i_X10_hop_67 rfl ?_
        obtain ⟨b68, e68, hf⟩ := ob hf
        refine ev_gR i_X10_hop_68 fl_X10_75 rfl e68 ?_
        refine ev_bipush i_X10_hop_71 lt_b_8 ?_
        refine ev_iload_n i_X10_hop_73 rfl ?_
        refine ev_imul i_X10_hop_74 ?_
        refine ev_iload i_X10_hop_75 rfl ?_
        refine ev_iadd i_X10_hop_77 ?_
        obtain ⟨v78, e78, hf⟩ := ob hf
        refine ev_aI i_X10_hop_78 e78 ?_
        refine ev_iload_n i_X10_hop_79 rfl ?_
        refine ev_icmp_ne (tg := 88) i_X10_hop_80 (by decide) (fun c80 => ?_) (fun c80 => ?_)
        · rw [if_neg c80] at hf
          refine ev_iload_n i_X10_hop_88 rfl ?_
          refine ev_istore_n i_X10_hop_89 (by decide) ?_
          refine ev_iinc (y := (x4 + (1 : Int32))) i_X10_hop_90 rfl rfl (by decide) ?_
          refine ev_goto (tg := 50) i_X10_hop_93 (by decide) ?_
          exact ih x3 (x4 + (1 : Int32)) _ hf
        · rw [if_pos c80] at hf
          refine ev_bipush i_X10_hop_83 lt_b_112 ?_
          refine ev_goto (tg := 89) i_X10_hop_85 (by decide) ?_
          refine ev_istore_n i_X10_hop_89 (by decide) ?_
          refine ev_iinc (y := (x4 + (1 : Int32))) i_X10_hop_90 rfl rfl (by decide) ?_
          refine ev_goto (tg := 50) i_X10_hop_93 (by decide) ?_
          exact ih (112 : Int32) (x4 + (1 : Int32)) _ hf
def f_X10_hop_L264 (k298 : MH → Option (Int32 × MH)) (a0 : Nat) (x1 : Int32) (x3 : Int32) (x4 : Int32) : Nat → MH → Int32 → Option (Int32 × MH)
  | 0, _, _ => none
  | n + 1, h, x6 => (gI h a0 10 13).bind fun v267 => (if v267 ≤ x6 then (k298 h) else ((gR h a0 10 9).bind fun b274 => (gR h a0 10 38).bind fun b280 => (aI h b280 (((8 : Int32) * x1) + x6)).bind fun v290 => (sI h b274 x6 v290).bind fun h291 => f_X10_hop_L264 k298 a0 x1 x3 x4 n h291 (x6 + (1 : Int32))))
set_option maxRecDepth 20000 in
theorem l_X10_hop_264 {G : GG} {k298 : MH → Option (Int32 × MH)} {a0 : Nat} {x1 : Int32} {x3 : Int32} {x4 : Int32} (hk298 : ∀ (hz : MH) (r : (Int32 × MH)), k298 hz = some r → Ev G 8 M_X10_hop 298 [some (.ref a0), some (.int x1), none, some (.int x3), some (.int x4), none, none] [] hz (some (.int r.1)) r.2) : ∀ (n : Nat) (h : MH) (x6 : Int32) (r : (Int32 × MH)), f_X10_hop_L264 k298 a0 x1 x3 x4 n h x6 = some r → Ev G 8 M_X10_hop 264 [some (.ref a0), some (.int x1), none, some (.int x3), some (.int x4), none, some (.int x6)] [] h (some (.int r.1)) r.2 := by
  intro n
  induction n with
  | zero => intro h x6 r hf; rw [f_X10_hop_L264] at hf; cases hf
  | succ n ih =>
    intro h x6 r hf
    rw [f_X10_hop_L264] at hf
    refine ev_iload i_X10_hop_264 rfl ?_
    refine ev_aload_n i_X10_hop_266 rfl ?_
    obtain ⟨v267, e267, hf⟩ := ob hf
    refine ev_gI i_X10_hop_267 fl_X10_122 rfl e267 ?_
    refine ev_icmp_ge (tg := 298) i_X10_hop_270 (by decide) (fun c270 => ?_) (fun c270 => ?_)
    · rw [if_pos c270] at hf
      refine ev_sub (lc2 := [some (.ref a0), some (.int x1), none, some (.int x3), some (.int x4), none, none]) ⟨Or.inr rfl, Or.inr rfl, Or.inr rfl, Or.inr rfl, Or.inr rfl, Or.inr rfl, Or.inl rfl, trivial⟩ ?_
      exact hk298 h _ hf
    · rw [if_neg c270] at hf
      refine ev_aload_n i_X10_hop_273 rfl ?_
      obtain ⟨b274, e274, hf⟩ := ob hf
      refine ev_gR i_X10_hop_274 fl_X10_28 rfl e274 ?_
      refine ev_iload i_X10_hop_277 rfl ?_
      refine ev_aload_n i_X10_hop_279 rfl ?_
      obtain ⟨b280, e280, hf⟩ := ob hf
      refine ev_gR i_X10_hop_280 fl_X10_75 rfl e280 ?_
      refine ev_bipush i_X10_hop_283 lt_b_8 ?_
      refine ev_iload_n i_X10_hop_285 rfl ?_
      refine ev_imul i_X10_hop_286 ?_
      refine ev_iload i_X10_hop_287 rfl ?_
      refine ev_iadd i_X10_hop_289 ?_
      obtain ⟨v290, e290, hf⟩ := ob hf
      refine ev_aI i_X10_hop_290 e290 ?_
      obtain ⟨h291, e291, hf⟩ := ob hf
      refine ev_sI i_X10_hop_291 e291 ?_
      refine ev_iinc (y := (x6 + (1 : Int32))) i_X10_hop_292 rfl rfl (by decide) ?_
      refine ev_goto (tg := 264) i_X10_hop_295 (by decide) ?_
      exact ih h291 (x6 + (1 : Int32)) _ hf
def f_X10_hop_j231 (k151 : Int32 → MH → Option (Int32 × MH)) (h : MH) (a0 : Nat) (x1 : Int32) (x3 : Int32) (x4 : Int32) (xs0 : Int32) : Option (Int32 × MH) := (if xs0 = 0 then (k151 (x4 + (1 : Int32)) h) else ((gR h a0 10 37).bind fun b243 => (aI h b243 x1).bind fun v247 => (pI h a0 10 13 v247).bind fun h248 => (gR h248 a0 10 36).bind fun b253 => (aI h248 b253 x1).bind fun v257 => (pI h248 a0 10 14 v257).bind fun h258 => f_X10_hop_L264 (fun he298 => (gI he298 a0 10 32).bind fun v300 => (gR he298 a0 10 34).bind fun b307 => (aI he298 b307 x1).bind fun v311 => (f_X10_isKept he298 a0 x4 v311).bind fun r312 => (if r312.1 = 0 then ((pI r312.2 a0 10 32 (v300 + (1 : Int32))).bind fun h324 => k151 (x4 + (1 : Int32)) h324) else ((pI r312.2 a0 10 32 (v300 + (0 : Int32))).bind fun h324 => k151 (x4 + (1 : Int32)) h324))) a0 x1 x3 x4 fuel h258 (0 : Int32)))
set_option maxRecDepth 20000 in
theorem j_X10_hop_231 {G : GG} {k151 : Int32 → MH → Option (Int32 × MH)} {h : MH} {a0 : Nat} {x1 : Int32} {x3 : Int32} {x4 : Int32} {xs0 : Int32} {r : (Int32 × MH)} (hk151 : ∀ (x4z : Int32) (hz : MH) (r : (Int32 × MH)), k151 x4z hz = some r → Ev G 8 M_X10_hop 151 [some (.ref a0), some (.int x1), none, some (.int x3), some (.int x4z), none, none] [] hz (some (.int r.1)) r.2) (hf : f_X10_hop_j231 k151 h a0 x1 x3 x4 xs0 = some r) : Ev G 8 M_X10_hop 231 [some (.ref a0), some (.int x1), none, some (.int x3), some (.int x4), none, none] [.int xs0] h (some (.int r.1)) r.2 := by
  unfold f_X10_hop_j231 at hf
  refine ev_istore i_X10_hop_231 (by decide) ?_
  refine ev_iload i_X10_hop_233 rfl ?_
  refine ev_if_ne (tg := 241) i_X10_hop_235 (by decide) (fun c235 => ?_) (fun c235 => ?_)
  · rw [if_neg c235] at hf
    refine ev_aload_n i_X10_hop_241 rfl ?_
    refine ev_aload_n i_X10_hop_242 rfl ?_
    obtain ⟨b243, e243, hf⟩ := ob hf
    refine ev_gR i_X10_hop_243 fl_X10_72 rfl e243 ?_
    refine ev_iload_n i_X10_hop_246 rfl ?_
    obtain ⟨v247, e247, hf⟩ := ob hf
    refine ev_aI i_X10_hop_247 e247 ?_
    obtain ⟨h248, e248, hf⟩ := ob hf
    refine ev_pI i_X10_hop_248 fp_X10_hop_122 rfl e248 ?_
    refine ev_aload_n i_X10_hop_251 rfl ?_
    refine ev_aload_n i_X10_hop_252 rfl ?_
    obtain ⟨b253, e253, hf⟩ := ob hf
    refine ev_gR i_X10_hop_253 fl_X10_69 rfl e253 ?_
    refine ev_iload_n i_X10_hop_256 rfl ?_
    obtain ⟨v257, e257, hf⟩ := ob hf
    refine ev_aI i_X10_hop_257 e257 ?_
    obtain ⟨h258, e258, hf⟩ := ob hf
    refine ev_pI i_X10_hop_258 fp_X10_hop_125 rfl e258 ?_
    refine ev_iconst i_X10_hop_261 lt_i_0 ?_
    refine ev_istore i_X10_hop_262 (by decide) ?_
    refine ev_sub (lc2 := [some (.ref a0), some (.int x1), none, some (.int x3), some (.int x4), none, some (.int (0 : Int32))]) ⟨Or.inr rfl, Or.inr rfl, Or.inr rfl, Or.inr rfl, Or.inr rfl, Or.inl rfl, Or.inr rfl, trivial⟩ ?_
    exact l_X10_hop_264 (fun he298 r hf => by
      refine ev_aload_n i_X10_hop_298 rfl ?_
      refine ev_dup i_X10_hop_299 ?_
      obtain ⟨v300, e300, hf⟩ := ob hf
      refine ev_gI i_X10_hop_300 fl_X10_203 rfl e300 ?_
      refine ev_aload_n i_X10_hop_303 rfl ?_
      refine ev_iload i_X10_hop_304 rfl ?_
      refine ev_aload_n i_X10_hop_306 rfl ?_
      obtain ⟨b307, e307, hf⟩ := ob hf
      refine ev_gR i_X10_hop_307 fl_X10_63 rfl e307 ?_
      refine ev_iload_n i_X10_hop_310 rfl ?_
      obtain ⟨v311, e311, hf⟩ := ob hf
      refine ev_aI i_X10_hop_311 e311 ?_
      obtain ⟨r312, e312, hf⟩ := ob hf
      refine ev_cV_i i_X10_hop_312 lk_X10_hop_148 [.int x4, .int v311] rfl rfl (by decide) (gK_of e312).1.1 (gK_of e312).1.2 (Nat.le_of_ble_eq_true rfl) (by decide) (e_X10_isKept e312) ?_
      refine ev_if_eq (tg := 322) i_X10_hop_315 (by decide) (fun c315 => ?_) (fun c315 => ?_)
      · rw [if_pos c315] at hf
        refine ev_iconst i_X10_hop_322 lt_i_1 ?_
        refine ev_iadd i_X10_hop_323 ?_
        obtain ⟨h324, e324, hf⟩ := ob hf
        refine ev_pI i_X10_hop_324 fp_X10_hop_203 rfl e324 ?_
        refine ev_iinc (y := (x4 + (1 : Int32))) i_X10_hop_327 rfl rfl (by decide) ?_
        refine ev_goto (tg := 151) i_X10_hop_330 (by decide) ?_
        exact hk151 (x4 + (1 : Int32)) h324 _ hf
      · rw [if_neg c315] at hf
        refine ev_iconst i_X10_hop_318 lt_i_0 ?_
        refine ev_goto (tg := 323) i_X10_hop_319 (by decide) ?_
        refine ev_iadd i_X10_hop_323 ?_
        obtain ⟨h324, e324, hf⟩ := ob hf
        refine ev_pI i_X10_hop_324 fp_X10_hop_203 rfl e324 ?_
        refine ev_iinc (y := (x4 + (1 : Int32))) i_X10_hop_327 rfl rfl (by decide) ?_
        refine ev_goto (tg := 151) i_X10_hop_330 (by decide) ?_
        exact hk151 (x4 + (1 : Int32)) h324 _ hf) fuel h258 (0 : Int32) _ hf
  · rw [if_pos c235] at hf
    refine ev_goto (tg := 327) i_X10_hop_238 (by decide) ?_
    refine ev_iinc (y := (x4 + (1 : Int32))) i_X10_hop_327 rfl rfl (by decide) ?_
    refine ev_goto (tg := 151) i_X10_hop_330 (by decide) ?_
    refine ev_sub (lc2 := [some (.ref a0), some (.int x1), none, some (.int x3), some (.int (x4 + (1 : Int32))), none, none]) ⟨Or.inr rfl, Or.inr rfl, Or.inr rfl, Or.inr rfl, Or.inr rfl, Or.inl rfl, Or.inr rfl, trivial⟩ ?_
    exact hk151 (x4 + (1 : Int32)) h _ hf
def f_X10_hop_j230 (k151 : Int32 → MH → Option (Int32 × MH)) (h : MH) (a0 : Nat) (x1 : Int32) (x3 : Int32) (x4 : Int32) : Option (Int32 × MH) := f_X10_hop_j231 (fun x4f151 hf151 => k151 x4f151 hf151) h a0 x1 x3 x4 (0 : Int32)
set_option maxRecDepth 20000 in
theorem j_X10_hop_230 {G : GG} {k151 : Int32 → MH → Option (Int32 × MH)} {h : MH} {a0 : Nat} {x1 : Int32} {x3 : Int32} {x4 : Int32} {r : (Int32 × MH)} (hk151 : ∀ (x4z : Int32) (hz : MH) (r : (Int32 × MH)), k151 x4z hz = some r → Ev G 8 M_X10_hop 151 [some (.ref a0), some (.int x1), none, some (.int x3), some (.int x4z), none, none] [] hz (some (.int r.1)) r.2) (hf : f_X10_hop_j230 k151 h a0 x1 x3 x4 = some r) : Ev G 8 M_X10_hop 230 [some (.ref a0), some (.int x1), none, some (.int x3), some (.int x4), none, none] [] h (some (.int r.1)) r.2 := by
  unfold f_X10_hop_j230 at hf
  refine ev_iconst i_X10_hop_230 lt_i_0 ?_
  exact j_X10_hop_231 (fun x4f151 hf151 r hf => by
    exact hk151 x4f151 hf151 _ hf) hf
def f_X10_hop_L151 (k333 : MH → Option (Int32 × MH)) (a0 : Nat) (x1 : Int32) (x3 : Int32) : Nat → MH → Int32 → Option (Int32 × MH)
  | 0, _, _ => none
  | n + 1, h, x4 => (gI h a0 10 2).bind fun v154 => (if v154 ≤ x4 then (k333 h) else ((gR h a0 10 8).bind fun b161 => (aI h b161 (((6 : Int32) * x4) + (3 : Int32))).bind fun v171 => (gR h a0 10 33).bind fun b173 => (aI h b173 x1).bind fun v177 => (if v171 = v177 then ((gR h a0 10 34).bind fun b182 => (aI h b182 x1).bind fun v186 => (gR h a0 10 8).bind fun b188 => (aI h b188 (((6 : Int32) * x4) + (1 : Int32))).bind fun v198 => (gR h a0 10 8).bind fun b200 => (aI h b200 (((6 : Int32) * x4) + (2 : Int32))).bind fun v210 => (f_X10_isOfSpan h v186 v198 v210).bind fun v211 => (if v211 = 0 then (f_X10_hop_j230 (fun x4f151 hf151 => f_X10_hop_L151 k333 a0 x1 x3 n hf151 x4f151) h a0 x1 x3 x4) else ((f_X10_isKeptOne h a0 x4).bind fun r220 => (if r220.1 = 0 then (f_X10_hop_j230 (fun x4f151 hf151 => f_X10_hop_L151 k333 a0 x1 x3 n hf151 x4f151) r220.2 a0 x1 x3 x4) else (f_X10_hop_j231 (fun x4f151 hf151 => f_X10_hop_L151 k333 a0 x1 x3 n hf151 x4f151) r220.2 a0 x1 x3 x4 (1 : Int32)))))) else (f_X10_hop_j230 (fun x4f151 hf151 => f_X10_hop_L151 k333 a0 x1 x3 n hf151 x4f151) h a0 x1 x3 x4))))
set_option maxRecDepth 20000 in
theorem l_X10_hop_151 {G : GG} {k333 : MH → Option (Int32 × MH)} {a0 : Nat} {x1 : Int32} {x3 : Int32} (hk333 : ∀ (hz : MH) (r : (Int32 × MH)), k333 hz = some r → Ev G 8 M_X10_hop 333 [none, none, none, some (.int x3), none, none, none] [] hz (some (.int r.1)) r.2) : ∀ (n : Nat) (h : MH) (x4 : Int32) (r : (Int32 × MH)), f_X10_hop_L151 k333 a0 x1 x3 n h x4 = some r → Ev G 8 M_X10_hop 151 [some (.ref a0), some (.int x1), none, some (.int x3), some (.int x4), none, none] [] h (some (.int r.1)) r.2 := by
  intro n
  induction n with
  | zero => intro h x4 r hf; rw [f_X10_hop_L151] at hf; cases hf
  | succ n ih =>
    intro h x4 r hf
    rw [f_X10_hop_L151] at hf
    refine ev_iload i_X10_hop_151 rfl ?_
    refine ev_aload_n i_X10_hop_153 rfl ?_
    obtain ⟨v154, e154, hf⟩ := ob hf
    refine ev_gI i_X10_hop_154 fl_X10_88 rfl e154 ?_
    refine ev_icmp_ge (tg := 333) i_X10_hop_157 (by decide) (fun c157 => ?_) (fun c157 => ?_)
    · rw [if_pos c157] at hf
      refine ev_sub (lc2 := [none, none, none, some (.int x3), none, none, none]) ⟨Or.inl rfl, Or.inl rfl, Or.inr rfl, Or.inr rfl, Or.inl rfl, Or.inr rfl, Or.inr rfl, trivial⟩ ?_
      exact hk333 h _ hf
    · rw [if_neg c157] at hf
      refine ev_aload_n i_X10_hop_160 rfl ?_
      obtain ⟨b161, e161, hf⟩ := ob hf
      refine ev_gR i_X10_hop_161 fl_X10_25 rfl e161 ?_
      refine ev_bipush i_X10_hop_164 lt_b_6 ?_
      refine ev_iload i_X10_hop_166 rfl ?_
      refine ev_imul i_X10_hop_168 ?_
      refine ev_iconst i_X10_hop_169 lt_i_3 ?_
      refine ev_iadd i_X10_hop_170 ?_
      obtain ⟨v171, e171, hf⟩ := ob hf
      refine ev_aI i_X10_hop_171 e171 ?_
      refine ev_aload_n i_X10_hop_172 rfl ?_
      obtain ⟨b173, e173, hf⟩ := ob hf
      refine ev_gR i_X10_hop_173 fl_X10_60 rfl e173 ?_
      refine ev_iload_n i_X10_hop_176 rfl ?_
      obtain ⟨v177, e177, hf⟩ := ob hf
      refine ev_aI i_X10_hop_177 e177 ?_
      refine ev_icmp_ne (tg := 230) i_X10_hop_178 (by decide) (fun c178 => ?_) (fun c178 => ?_)
      · rw [if_neg c178] at hf
        exact j_X10_hop_230 (fun x4f151 hf151 r hf => by
          exact ih hf151 x4f151 _ hf) hf
      · rw [if_pos c178] at hf
        refine ev_aload_n i_X10_hop_181 rfl ?_
        obtain ⟨b182, e182, hf⟩ := ob hf
        refine ev_gR i_X10_hop_182 fl_X10_63 rfl e182 ?_
        refine ev_iload_n i_X10_hop_185 rfl ?_
        obtain ⟨v186, e186, hf⟩ := ob hf
        refine ev_aI i_X10_hop_186 e186 ?_
        refine ev_aload_n i_X10_hop_187 rfl ?_
        obtain ⟨b188, e188, hf⟩ := ob hf
        refine ev_gR i_X10_hop_188 fl_X10_25 rfl e188 ?_
        refine ev_bipush i_X10_hop_191 lt_b_6 ?_
        refine ev_iload i_X10_hop_193 rfl ?_
        refine ev_imul i_X10_hop_195 ?_
        refine ev_iconst i_X10_hop_196 lt_i_1 ?_
        refine ev_iadd i_X10_hop_197 ?_
        obtain ⟨v198, e198, hf⟩ := ob hf
        refine ev_aI i_X10_hop_198 e198 ?_
        refine ev_aload_n i_X10_hop_199 rfl ?_
        obtain ⟨b200, e200, hf⟩ := ob hf
        refine ev_gR i_X10_hop_200 fl_X10_25 rfl e200 ?_
        refine ev_bipush i_X10_hop_203 lt_b_6 ?_
        refine ev_iload i_X10_hop_205 rfl ?_
        refine ev_imul i_X10_hop_207 ?_
        refine ev_iconst i_X10_hop_208 lt_i_2 ?_
        refine ev_iadd i_X10_hop_209 ?_
        obtain ⟨v210, e210, hf⟩ := ob hf
        refine ev_aI i_X10_hop_210 e210 ?_
        obtain ⟨v211, e211, hf⟩ := ob hf
        refine ev_cS_i i_X10_hop_211 lk_X10_hop_116 [.int v186, .int v198, .int v210] rfl rfl (by decide) (Nat.le_of_ble_eq_true rfl) (by decide) (e_X10_isOfSpan e211) ?_
        refine ev_if_eq (tg := 230) i_X10_hop_214 (by decide) (fun c214 => ?_) (fun c214 => ?_)
        · rw [if_pos c214] at hf
          exact j_X10_hop_230 (fun x4f151 hf151 r hf => by
            exact ih hf151 x4f151 _ hf) hf
        · rw [if_neg c214] at hf
          refine ev_aload_n i_X10_hop_217 rfl ?_
          refine ev_iload i_X10_hop_218 rfl ?_
          obtain ⟨r220, e220, hf⟩ := ob hf
          refine ev_cV_i i_X10_hop_220 lk_X10_hop_155 [.int x4] rfl rfl (by decide) (gK_of e220).1.1 (gK_of e220).1.2 (Nat.le_of_ble_eq_true rfl) (by decide) (e_X10_isKeptOne e220) ?_
          refine ev_if_eq (tg := 230) i_X10_hop_223 (by decide) (fun c223 => ?_) (fun c223 => ?_)
          · rw [if_pos c223] at hf
            exact j_X10_hop_230 (fun x4f151 hf151 r hf => by
              exact ih hf151 x4f151 _ hf) hf
          · rw [if_neg c223] at hf
            refine ev_iconst i_X10_hop_226 lt_i_1 ?_
            refine ev_goto (tg := 231) i_X10_hop_227 (by decide) ?_
            exact j_X10_hop_231 (fun x4f151 hf151 r hf => by
              exact ih hf151 x4f151 _ hf) hf
def f_X10_hop (h : MH) (a0 : Nat) (x1 : Int32) : Option (Int32 × MH) := gK h a0 10 ((f_X10_isPacket h a0 x1).bind fun v2 => (if v2 = 0 then (some ((-1 : Int32), h)) else ((gR h a0 10 36).bind fun b9 => (aI h b9 x1).bind fun v13 => (if v13 = (-1 : Int32) then ((gR h a0 10 35).bind fun b21 => (aI h b21 x1).bind fun v25 => (gI h a0 10 30).bind fun v30 => (gR h a0 10 34).bind fun b38 => (aI h b38 x1).bind fun v42 => (f_X10_goes h a0 v25 ((v30 >>> (v25 &&& 31)) &&& (1 : Int32)) v42).bind fun v43 => f_X10_hop_L50 (fun x3e96 => (if (100 : Int32) ≤ x3e96 then ((gR h a0 10 36).bind fun b139 => (sI h b139 x1 (x3e96 - (100 : Int32))).bind fun h147 => f_X10_hop_L151 (fun he333 => some (x3e96, he333)) a0 x1 x3e96 fuel h147 (0 : Int32)) else ((gR h a0 10 38).bind fun b103 => (gR h a0 10 37).bind fun b111 => (aI h b111 x1).bind fun v115 => (sI h b103 (((8 : Int32) * x1) + v115) x3e96).bind fun h118 => (gR h118 a0 10 37).bind fun b120 => (aI h118 b120 x1).bind fun v125 => (sI h118 b120 x1 (v125 + (1 : Int32))).bind fun h128 => (gR h128 a0 10 35).bind fun b130 => (sI h128 b130 x1 x3e96).bind fun h135 => some (x3e96, h135)))) h a0 x1 fuel v43 (0 : Int32)) else (some ((-1 : Int32), h))))))
set_option maxRecDepth 20000 in
theorem e_X10_hop {G : GG} {h : MH} {a0 : Nat} {x1 : Int32} {r : (Int32 × MH)} (hf : f_X10_hop h a0 x1 = some r) : Ev G 8 M_X10_hop 0 (ent M_X10_hop [.ref a0, .int x1]) [] h (some (.int r.1)) r.2 := by
  unfold f_X10_hop at hf
  show Ev G 8 M_X10_hop 0 [some (.ref a0), some (.int x1), none, none, none, none, none] [] h (some (.int r.1)) r.2
  obtain ⟨-, hf⟩ := gK_of hf
  refine ev_aload_n i_X10_hop_0 rfl ?_
  refine ev_iload_n i_X10_hop_1 rfl ?_
  obtain ⟨v2, e2, hf⟩ := ob hf
  refine ev_cV_i i_X10_hop_2 lk_X10_hop_206 [.int x1] rfl rfl (by decide) (gK_of e2).1.1 (gK_of e2).1.2 (Nat.le_of_ble_eq_true rfl) (by decide) (e_X10_isPacket e2) ?_
  refine ev_if_eq (tg := 18) i_X10_hop_5 (by decide) (fun c5 => ?_) (fun c5 => ?_)
  · rw [if_pos c5] at hf
    refine ev_iconst i_X10_hop_18 lt_i_m1 ?_
    cases hf
    exact ev_iiret i_X10_hop_19 rfl
  · rw [if_neg c5] at hf
    refine ev_aload_n i_X10_hop_8 rfl ?_
    obtain ⟨b9, e9, hf⟩ := ob hf
    refine ev_gR i_X10_hop_9 fl_X10_69 rfl e9 ?_
    refine ev_iload_n i_X10_hop_12 rfl ?_
    obtain ⟨v13, e13, hf⟩ := ob hf
    refine ev_aI i_X10_hop_13 e13 ?_
    refine ev_iconst i_X10_hop_14 lt_i_m1 ?_
    refine ev_icmp_eq (tg := 20) i_X10_hop_15 (by decide) (fun c15 => ?_) (fun c15 => ?_)
    · rw [if_pos c15] at hf
      refine ev_aload_n i_X10_hop_20 rfl ?_
      obtain ⟨b21, e21, hf⟩ := ob hf
      refine ev_gR i_X10_hop_21 fl_X10_66 rfl e21 ?_
      refine ev_iload_n i_X10_hop_24 rfl ?_
      obtain ⟨v25, e25, hf⟩ := ob hf
      refine ev_aI i_X10_hop_25 e25 ?_
      refine ev_istore_n i_X10_hop_26 (by decide) ?_
      refine ev_aload_n i_X10_hop_27 rfl ?_
      refine ev_iload_n i_X10_hop_28 rfl ?_
      refine ev_aload_n i_X10_hop_29 rfl ?_
      obtain ⟨v30, e30, hf⟩ := ob hf
      refine ev_gI i_X10_hop_30 fl_X10_197 rfl e30 ?_
      refine ev_iload_n i_X10_hop_33 rfl ?_
      refine ev_ishr i_X10_hop_34 ?_
      refine ev_iconst i_X10_hop_35 lt_i_1 ?_
      refine ev_iand i_X10_hop_36 ?_
      refine ev_aload_n i_X10_hop_37 rfl ?_
      obtain ⟨b38, e38, hf⟩ := ob hf
      refine ev_gR i_X10_hop_38 fl_X10_63 rfl e38 ?_
      refine ev_iload_n i_X10_hop_41 rfl ?_
      obtain ⟨v42, e42, hf⟩ := ob hf
      refine ev_aI i_X10_hop_42 e42 ?_
      obtain ⟨v43, e43, hf⟩ := ob hf
      refine ev_cV_i i_X10_hop_43 lk_X10_hop_128 [.int v25, .int ((v30 >>> (v25 &&& 31)) &&& (1 : Int32)), .int v42] rfl rfl (by decide) (gK_of e43).1.1 (gK_of e43).1.2 (Nat.le_of_ble_eq_true rfl) (by decide) (e_X10_goes e43) ?_
      refine ev_istore_n i_X10_hop_46 (by decide) ?_
      refine ev_iconst i_X10_hop_47 lt_i_0 ?_
      refine ev_istore i_X10_hop_48 (by decide) ?_
      refine ev_sub (lc2 := [some (.ref a0), some (.int x1), none, some (.int v43), some (.int (0 : Int32)), none, none]) ⟨Or.inr rfl, Or.inr rfl, Or.inl rfl, Or.inr rfl, Or.inr rfl, Or.inr rfl, Or.inr rfl, trivial⟩ ?_
      exact l_X10_hop_50 (fun x3e96 r hf => by
        refine ev_iload_n i_X10_hop_96 rfl ?_
        refine ev_bipush i_X10_hop_97 lt_b_100 ?_
        refine ev_icmp_ge (tg := 138) i_X10_hop_99 (by decide) (fun c99 => ?_) (fun c99 => ?_)
        · rw [if_pos c99] at hf
          refine ev_aload_n i_X10_hop_138 rfl ?_
          obtain ⟨b139, e139, hf⟩ := ob hf
          refine ev_gR i_X10_hop_139 fl_X10_69 rfl e139 ?_
          refine ev_iload_n i_X10_hop_142 rfl ?_
          refine ev_iload_n i_X10_hop_143 rfl ?_
          refine ev_bipush i_X10_hop_144 lt_b_100 ?_
          refine ev_isub i_X10_hop_146 ?_
          obtain ⟨h147, e147, hf⟩ := ob hf
          refine ev_sI i_X10_hop_147 e147 ?_
          refine ev_iconst i_X10_hop_148 lt_i_0 ?_
          refine ev_istore i_X10_hop_149 (by decide) ?_
          exact l_X10_hop_151 (fun he333 r hf => by
            refine ev_iload_n i_X10_hop_333 rfl ?_
            cases hf
            exact ev_iiret i_X10_hop_334 rfl) fuel h147 (0 : Int32) _ hf
        · rw [if_neg c99] at hf
          refine ev_aload_n i_X10_hop_102 rfl ?_
          obtain ⟨b103, e103, hf⟩ := ob hf
          refine ev_gR i_X10_hop_103 fl_X10_75 rfl e103 ?_
          refine ev_bipush i_X10_hop_106 lt_b_8 ?_
          refine ev_iload_n i_X10_hop_108 rfl ?_
          refine ev_imul i_X10_hop_109 ?_
          refine ev_aload_n i_X10_hop_110 rfl ?_
          obtain ⟨b111, e111, hf⟩ := ob hf
          refine ev_gR i_X10_hop_111 fl_X10_72 rfl e111 ?_
          refine ev_iload_n i_X10_hop_114 rfl ?_
          obtain ⟨v115, e115, hf⟩ := ob hf
          refine ev_aI i_X10_hop_115 e115 ?_
          refine ev_iadd i_X10_hop_116 ?_
          refine ev_iload_n i_X10_hop_117 rfl ?_
          obtain ⟨h118, e118, hf⟩ := ob hf
          refine ev_sI i_X10_hop_118 e118 ?_
          refine ev_aload_n i_X10_hop_119 rfl ?_
          obtain ⟨b120, e120, hf⟩ := ob hf
          refine ev_gR i_X10_hop_120 fl_X10_72 rfl e120 ?_
          refine ev_iload_n i_X10_hop_123 rfl ?_
          refine ev_dup2 i_X10_hop_124 ?_
          obtain ⟨v125, e125, hf⟩ := ob hf
          refine ev_aI i_X10_hop_125 e125 ?_
          refine ev_iconst i_X10_hop_126 lt_i_1 ?_
          refine ev_iadd i_X10_hop_127 ?_
          obtain ⟨h128, e128, hf⟩ := ob hf
          refine ev_sI i_X10_hop_128 e128 ?_
          refine ev_aload_n i_X10_hop_129 rfl ?_
          obtain ⟨b130, e130, hf⟩ := ob hf
          refine ev_gR i_X10_hop_130 fl_X10_66 rfl e130 ?_
          refine ev_iload_n i_X10_hop_133 rfl ?_
          refine ev_iload_n i_X10_hop_134 rfl ?_
          obtain ⟨h135, e135, hf⟩ := ob hf
          refine ev_sI i_X10_hop_135 e135 ?_
          refine ev_iload_n i_X10_hop_136 rfl ?_
          cases hf
          exact ev_iiret i_X10_hop_137 rfl) fuel v43 (0 : Int32) _ hf
    · rw [if_neg c15] at hf
      refine ev_iconst i_X10_hop_18 lt_i_m1 ?_
      cases hf
      exact ev_iiret i_X10_hop_19 rfl
def f_X10_left (h : MH) (a0 : Nat) : Option Int32 := gK h a0 10 ((gI h a0 10 29).bind fun v1 => (gI h a0 10 24).bind fun v5 => (if v5 ≤ v1 then (some (0 : Int32)) else ((gR h a0 10 25).bind fun b12 => (gI h a0 10 29).bind fun v16 => (aI h b12 v16).bind fun v19 => (gI h a0 10 30).bind fun v21 => some (v19 &&& (v21 ^^^ (-1 : Int32))))))
set_option maxRecDepth 20000 in
theorem e_X10_left {G : GG} {h : MH} {a0 : Nat} {r : Int32} (hf : f_X10_left h a0 = some r) : Ev G 0 M_X10_left 0 (ent M_X10_left [.ref a0]) [] h (some (.int r)) h := by
  unfold f_X10_left at hf
  show Ev G 0 M_X10_left 0 [some (.ref a0)] [] h (some (.int r)) h
  obtain ⟨-, hf⟩ := gK_of hf
  refine ev_aload_n i_X10_left_0 rfl ?_
  obtain ⟨v1, e1, hf⟩ := ob hf
  refine ev_gI i_X10_left_1 fl_X10_194 rfl e1 ?_
  refine ev_aload_n i_X10_left_4 rfl ?_
  obtain ⟨v5, e5, hf⟩ := ob hf
  refine ev_gI i_X10_left_5 fl_X10_162 rfl e5 ?_
  refine ev_icmp_ge (tg := 30) i_X10_left_8 (by decide) (fun c8 => ?_) (fun c8 => ?_)
  · rw [if_pos c8] at hf
    refine ev_iconst i_X10_left_30 lt_i_0 ?_
    cases hf
    exact ev_iiret i_X10_left_31 rfl
  · rw [if_neg c8] at hf
    refine ev_aload_n i_X10_left_11 rfl ?_
    obtain ⟨b12, e12, hf⟩ := ob hf
    refine ev_gR i_X10_left_12 fl_X10_51 rfl e12 ?_
    refine ev_aload_n i_X10_left_15 rfl ?_
    obtain ⟨v16, e16, hf⟩ := ob hf
    refine ev_gI i_X10_left_16 fl_X10_194 rfl e16 ?_
    obtain ⟨v19, e19, hf⟩ := ob hf
    refine ev_aI i_X10_left_19 e19 ?_
    refine ev_aload_n i_X10_left_20 rfl ?_
    obtain ⟨v21, e21, hf⟩ := ob hf
    refine ev_gI i_X10_left_21 fl_X10_197 rfl e21 ?_
    refine ev_iconst i_X10_left_24 lt_i_m1 ?_
    refine ev_ixor i_X10_left_25 ?_
    refine ev_iand i_X10_left_26 ?_
    refine ev_goto (tg := 31) i_X10_left_27 (by decide) ?_
    cases hf
    exact ev_iiret i_X10_left_31 rfl
def f_X10_change_L50 (k75 : Int32 → Option (Int32 × MH)) (h : MH) (a0 : Nat) : Nat → Int32 → Int32 → Option (Int32 × MH)
  | 0, _, _ => none
  | n + 1, x2, x3 => (gI h a0 10 0).bind fun v52 => (if v52 ≤ x3 then (k75 x2) else ((f_X10_left h a0).bind fun v60 => f_X10_change_L50 k75 h a0 n (x2 + ((v60 >>> (x3 &&& 31)) &&& (1 : Int32))) (x3 + (1 : Int32))))
set_option maxRecDepth 20000 in
theorem l_X10_change_50 {G : GG} {k75 : Int32 → Option (Int32 × MH)} {h : MH} {a0 : Nat} (hk75 : ∀ (x2z : Int32) (r : (Int32 × MH)), k75 x2z = some r → Ev G 1 M_X10_change 75 [none, none, some (.int x2z), none] [] h (some (.int r.1)) r.2) : ∀ (n : Nat) (x2 : Int32) (x3 : Int32) (r : (Int32 × MH)), f_X10_change_L50 k75 h a0 n x2 x3 = some r → Ev G 1 M_X10_change 50 [some (.ref a0), none, some (.int x2), some (.int x3)] [] h (some (.int r.1)) r.2 := by
  intro n
  induction n with
  | zero => intro x2 x3 r hf; rw [f_X10_change_L50] at hf; cases hf
  | succ n ih =>
    intro x2 x3 r hf
    rw [f_X10_change_L50] at hf
    refine ev_iload_n i_X10_change_50 rfl ?_
    refine ev_aload_n i_X10_change_51 rfl ?_
    obtain ⟨v52, e52, hf⟩ := ob hf
    refine ev_gI i_X10_change_52 fl_X10_82 rfl e52 ?_
    refine ev_icmp_ge (tg := 75) i_X10_change_55 (by decide) (fun c55 => ?_) (fun c55 => ?_)
    · rw [if_pos c55] at hf
      refine ev_sub (lc2 := [none, none, some (.int x2), none]) ⟨Or.inl rfl, Or.inr rfl, Or.inr rfl, Or.inl rfl, trivial⟩ ?_
      exact hk75 x2 _ hf
    · rw [if_neg c55] at hf
      refine ev_iload_n i_X10_change_58 rfl ?_
      refine ev_aload_n i_X10_change_59 rfl ?_
      obtain ⟨v60, e60, hf⟩ := ob hf
      refine ev_cV_i i_X10_change_60 lk_X10_change_209 [] rfl rfl (by decide) (gK_of e60).1.1 (gK_of e60).1.2 (Nat.le_of_ble_eq_true rfl) (by decide) (e_X10_left e60) ?_
      refine ev_iload_n i_X10_change_63 rfl ?_
      refine ev_ishr i_X10_change_64 ?_
      refine ev_iconst i_X10_change_65 lt_i_1 ?_
      refine ev_iand i_X10_change_66 ?_
      refine ev_iadd i_X10_change_67 ?_
      refine ev_istore_n i_X10_change_68 (by decide) ?_
      refine ev_iinc (y := (x3 + (1 : Int32))) i_X10_change_69 rfl rfl (by decide) ?_
      refine ev_goto (tg := 50) i_X10_change_72 (by decide) ?_
      exact ih (x2 + ((v60 >>> (x3 &&& 31)) &&& (1 : Int32))) (x3 + (1 : Int32)) _ hf
def f_X10_change (h : MH) (a0 : Nat) (x1 : Int32) : Option (Int32 × MH) := gK h a0 10 ((gI h a0 10 28).bind fun v1 => (if v1 = 0 then (some ((-1 : Int32), h)) else ((gI h a0 10 0).bind fun v10 => (f_X10_isIn h x1 (0 : Int32) (v10 - (1 : Int32))).bind fun v15 => (if v15 = 0 then (some ((-1 : Int32), h)) else ((f_X10_left h a0).bind fun v22 => (if ((v22 >>> (x1 &&& 31)) &&& (1 : Int32)) = 0 then (some ((-1 : Int32), h)) else ((gI h a0 10 30).bind fun v36 => (pI h a0 10 30 (v36 ||| ((1 : Int32) <<< (x1 &&& 31)))).bind fun h43 => f_X10_change_L50 (fun x2e75 => some (x2e75, h43)) h43 a0 fuel (0 : Int32) (0 : Int32))))))))
set_option maxRecDepth 20000 in
theorem e_X10_change {G : GG} {h : MH} {a0 : Nat} {x1 : Int32} {r : (Int32 × MH)} (hf : f_X10_change h a0 x1 = some r) : Ev G 1 M_X10_change 0 (ent M_X10_change [.ref a0, .int x1]) [] h (some (.int r.1)) r.2 := by
  unfold f_X10_change at hf
  show Ev G 1 M_X10_change 0 [some (.ref a0), some (.int x1), none, none] [] h (some (.int r.1)) r.2
  obtain ⟨-, hf⟩ := gK_of hf
  refine ev_aload_n i_X10_change_0 rfl ?_
  obtain ⟨v1, e1, hf⟩ := ob hf
  refine ev_gI i_X10_change_1 fl_X10_165 rfl e1 ?_
  refine ev_if_eq (tg := 32) i_X10_change_4 (by decide) (fun c4 => ?_) (fun c4 => ?_)
  · rw [if_pos c4] at hf
    refine ev_iconst i_X10_change_32 lt_i_m1 ?_
    cases hf
    exact ev_iiret i_X10_change_33 rfl
  · rw [if_neg c4] at hf
    refine ev_iload_n i_X10_change_7 rfl ?_
    refine ev_iconst i_X10_change_8 lt_i_0 ?_
    refine ev_aload_n i_X10_change_9 rfl ?_
    obtain ⟨v10, e10, hf⟩ := ob hf
    refine ev_gI i_X10_change_10 fl_X10_82 rfl e10 ?_
    refine ev_iconst i_X10_change_13 lt_i_1 ?_
    refine ev_isub i_X10_change_14 ?_
    obtain ⟨v15, e15, hf⟩ := ob hf
    refine ev_cS_i i_X10_change_15 lk_X10_change_94 [.int x1, .int (0 : Int32), .int (v10 - (1 : Int32))] rfl rfl (by decide) (Nat.le_of_ble_eq_true rfl) (by decide) (e_X10_isIn e15) ?_
    refine ev_if_eq (tg := 32) i_X10_change_18 (by decide) (fun c18 => ?_) (fun c18 => ?_)
    · rw [if_pos c18] at hf
      refine ev_iconst i_X10_change_32 lt_i_m1 ?_
      cases hf
      exact ev_iiret i_X10_change_33 rfl
    · rw [if_neg c18] at hf
      refine ev_aload_n i_X10_change_21 rfl ?_
      obtain ⟨v22, e22, hf⟩ := ob hf
      refine ev_cV_i i_X10_change_22 lk_X10_change_209 [] rfl rfl (by decide) (gK_of e22).1.1 (gK_of e22).1.2 (Nat.le_of_ble_eq_true rfl) (by decide) (e_X10_left e22) ?_
      refine ev_iload_n i_X10_change_25 rfl ?_
      refine ev_ishr i_X10_change_26 ?_
      refine ev_iconst i_X10_change_27 lt_i_1 ?_
      refine ev_iand i_X10_change_28 ?_
      refine ev_if_ne (tg := 34) i_X10_change_29 (by decide) (fun c29 => ?_) (fun c29 => ?_)
      · rw [if_neg c29] at hf
        refine ev_aload_n i_X10_change_34 rfl ?_
        refine ev_dup i_X10_change_35 ?_
        obtain ⟨v36, e36, hf⟩ := ob hf
        refine ev_gI i_X10_change_36 fl_X10_197 rfl e36 ?_
        refine ev_iconst i_X10_change_39 lt_i_1 ?_
        refine ev_iload_n i_X10_change_40 rfl ?_
        refine ev_ishl i_X10_change_41 ?_
        refine ev_ior i_X10_change_42 ?_
        obtain ⟨h43, e43, hf⟩ := ob hf
        refine ev_pI i_X10_change_43 fp_X10_change_197 rfl e43 ?_
        refine ev_iconst i_X10_change_46 lt_i_0 ?_
        refine ev_istore_n i_X10_change_47 (by decide) ?_
        refine ev_iconst i_X10_change_48 lt_i_0 ?_
        refine ev_istore_n i_X10_change_49 (by decide) ?_
        refine ev_sub (lc2 := [some (.ref a0), none, some (.int (0 : Int32)), some (.int (0 : Int32))]) ⟨Or.inr rfl, Or.inl rfl, Or.inr rfl, Or.inr rfl, trivial⟩ ?_
        exact l_X10_change_50 (fun x2e75 r hf => by
          refine ev_iload_n i_X10_change_75 rfl ?_
          cases hf
          exact ev_iiret i_X10_change_76 rfl) fuel (0 : Int32) (0 : Int32) _ hf
      · rw [if_pos c29] at hf
        refine ev_iconst i_X10_change_32 lt_i_m1 ?_
        cases hf
        exact ev_iiret i_X10_change_33 rfl
def f_X10_underWay_L4 (k36 : Int32 → Option Int32) (h : MH) (a0 : Nat) : Nat → Int32 → Int32 → Option Int32
  | 0, _, _ => none
  | n + 1, x1, x2 => (gI h a0 10 31).bind fun v6 => (if v6 ≤ x2 then (k36 x1) else ((gR h a0 10 36).bind fun b14 => (aI h b14 x2).bind fun v18 => (if v18 = (-1 : Int32) then (f_X10_underWay_L4 k36 h a0 n (x1 + (1 : Int32)) (x2 + (1 : Int32))) else (f_X10_underWay_L4 k36 h a0 n (x1 + (0 : Int32)) (x2 + (1 : Int32))))))
set_option maxRecDepth 20000 in
theorem l_X10_underWay_4 {G : GG} {k36 : Int32 → Option Int32} {h : MH} {a0 : Nat} (hk36 : ∀ (x1z : Int32) (r : Int32), k36 x1z = some r → Ev G 0 M_X10_underWay 36 [none, some (.int x1z), none] [] h (some (.int r)) h) : ∀ (n : Nat) (x1 : Int32) (x2 : Int32) (r : Int32), f_X10_underWay_L4 k36 h a0 n x1 x2 = some r → Ev G 0 M_X10_underWay 4 [some (.ref a0), some (.int x1), some (.int x2)] [] h (some (.int r)) h := by
  intro n
  induction n with
  | zero => intro x1 x2 r hf; rw [f_X10_underWay_L4] at hf; cases hf
  | succ n ih =>
    intro x1 x2 r hf
    rw [f_X10_underWay_L4] at hf
    refine ev_iload_n i_X10_underWay_4 rfl ?_
    refine ev_aload_n i_X10_underWay_5 rfl ?_
    obtain ⟨v6, e6, hf⟩ := ob hf
    refine ev_gI i_X10_underWay_6 fl_X10_200 rfl e6 ?_
    refine ev_icmp_ge (tg := 36) i_X10_underWay_9 (by decide) (fun c9 => ?_) (fun c9 => ?_)
    · rw [if_pos c9] at hf
      refine ev_sub (lc2 := [none, some (.int x1), none]) ⟨Or.inl rfl, Or.inr rfl, Or.inl rfl, trivial⟩ ?_
      exact hk36 x1 _ hf
    · rw [if_neg c9] at hf
      refine ev_iload_n i_X10_underWay_12 rfl ?_
      refine ev_aload_n i_X10_underWay_13 rfl ?_
      obtain ⟨b14, e14, hf⟩ := ob hf
      refine ev_gR i_X10_underWay_14 fl_X10_69 rfl e14 ?_
      refine ev_iload_n i_X10_underWay_17 rfl ?_
      obtain ⟨v18, e18, hf⟩ := ob hf
      refine ev_aI i_X10_underWay_18 e18 ?_
      refine ev_iconst i_X10_underWay_19 lt_i_m1 ?_
      refine ev_icmp_ne (tg := 27) i_X10_underWay_20 (by decide) (fun c20 => ?_) (fun c20 => ?_)
      · rw [if_neg c20] at hf
        refine ev_iconst i_X10_underWay_27 lt_i_0 ?_
        refine ev_iadd i_X10_underWay_28 ?_
        refine ev_istore_n i_X10_underWay_29 (by decide) ?_
        refine ev_iinc (y := (x2 + (1 : Int32))) i_X10_underWay_30 rfl rfl (by decide) ?_
        refine ev_goto (tg := 4) i_X10_underWay_33 (by decide) ?_
        exact ih (x1 + (0 : Int32)) (x2 + (1 : Int32)) _ hf
      · rw [if_pos c20] at hf
        refine ev_iconst i_X10_underWay_23 lt_i_1 ?_
        refine ev_goto (tg := 28) i_X10_underWay_24 (by decide) ?_
        refine ev_iadd i_X10_underWay_28 ?_
        refine ev_istore_n i_X10_underWay_29 (by decide) ?_
        refine ev_iinc (y := (x2 + (1 : Int32))) i_X10_underWay_30 rfl rfl (by decide) ?_
        refine ev_goto (tg := 4) i_X10_underWay_33 (by decide) ?_
        exact ih (x1 + (1 : Int32)) (x2 + (1 : Int32)) _ hf
def f_X10_underWay (h : MH) (a0 : Nat) : Option Int32 := gK h a0 10 (f_X10_underWay_L4 (fun x1e36 => some x1e36) h a0 fuel (0 : Int32) (0 : Int32))
set_option maxRecDepth 20000 in
theorem e_X10_underWay {G : GG} {h : MH} {a0 : Nat} {r : Int32} (hf : f_X10_underWay h a0 = some r) : Ev G 0 M_X10_underWay 0 (ent M_X10_underWay [.ref a0]) [] h (some (.int r)) h := by
  unfold f_X10_underWay at hf
  show Ev G 0 M_X10_underWay 0 [some (.ref a0), none, none] [] h (some (.int r)) h
  obtain ⟨-, hf⟩ := gK_of hf
  refine ev_iconst i_X10_underWay_0 lt_i_0 ?_
  refine ev_istore_n i_X10_underWay_1 (by decide) ?_
  refine ev_iconst i_X10_underWay_2 lt_i_0 ?_
  refine ev_istore_n i_X10_underWay_3 (by decide) ?_
  exact l_X10_underWay_4 (fun x1e36 r hf => by
    refine ev_iload_n i_X10_underWay_36 rfl ?_
    cases hf
    exact ev_iiret i_X10_underWay_37 rfl) fuel (0 : Int32) (0 : Int32) _ hf
def f_X10_next (h : MH) (a0 : Nat) : Option (Int32 × MH) := gK h a0 10 ((gI h a0 10 28).bind fun v1 => (if v1 = 0 then (some ((-1 : Int32), h)) else ((gI h a0 10 29).bind fun v8 => (gI h a0 10 24).bind fun v12 => (if v8 = v12 then (some ((-1 : Int32), h)) else ((f_X10_left h a0).bind fun v19 => (if v19 = 0 then ((f_X10_underWay h a0).bind fun v26 => (if v26 ≤ 0 then ((gI h a0 10 29).bind fun v36 => (pI h a0 10 29 (v36 + (1 : Int32))).bind fun h41 => (gI h41 a0 10 29).bind fun v45 => some (v45, h41)) else (some ((-1 : Int32), h)))) else (some ((-1 : Int32), h))))))))
set_option maxRecDepth 20000 in
theorem e_X10_next {G : GG} {h : MH} {a0 : Nat} {r : (Int32 × MH)} (hf : f_X10_next h a0 = some r) : Ev G 1 M_X10_next 0 (ent M_X10_next [.ref a0]) [] h (some (.int r.1)) r.2 := by
  unfold f_X10_next at hf
  show Ev G 1 M_X10_next 0 [some (.ref a0)] [] h (some (.int r.1)) r.2
  obtain ⟨-, hf⟩ := gK_of hf
  refine ev_aload_n i_X10_next_0 rfl ?_
  obtain ⟨v1, e1, hf⟩ := ob hf
  refine ev_gI i_X10_next_1 fl_X10_165 rfl e1 ?_
  refine ev_if_eq (tg := 32) i_X10_next_4 (by decide) (fun c4 => ?_) (fun c4 => ?_)
  · rw [if_pos c4] at hf
    refine ev_iconst i_X10_next_32 lt_i_m1 ?_
    cases hf
    exact ev_iiret i_X10_next_33 rfl
  · rw [if_neg c4] at hf
    refine ev_aload_n i_X10_next_7 rfl ?_
    obtain ⟨v8, e8, hf⟩ := ob hf
    refine ev_gI i_X10_next_8 fl_X10_194 rfl e8 ?_
    refine ev_aload_n i_X10_next_11 rfl ?_
    obtain ⟨v12, e12, hf⟩ := ob hf
    refine ev_gI i_X10_next_12 fl_X10_162 rfl e12 ?_
    refine ev_icmp_eq (tg := 32) i_X10_next_15 (by decide) (fun c15 => ?_) (fun c15 => ?_)
    · rw [if_pos c15] at hf
      refine ev_iconst i_X10_next_32 lt_i_m1 ?_
      cases hf
      exact ev_iiret i_X10_next_33 rfl
    · rw [if_neg c15] at hf
      refine ev_aload_n i_X10_next_18 rfl ?_
      obtain ⟨v19, e19, hf⟩ := ob hf
      refine ev_cV_i i_X10_next_19 lk_X10_next_209 [] rfl rfl (by decide) (gK_of e19).1.1 (gK_of e19).1.2 (Nat.le_of_ble_eq_true rfl) (by decide) (e_X10_left e19) ?_
      refine ev_if_ne (tg := 32) i_X10_next_22 (by decide) (fun c22 => ?_) (fun c22 => ?_)
      · rw [if_neg c22] at hf
        refine ev_iconst i_X10_next_32 lt_i_m1 ?_
        cases hf
        exact ev_iiret i_X10_next_33 rfl
      · rw [if_pos c22] at hf
        refine ev_aload_n i_X10_next_25 rfl ?_
        obtain ⟨v26, e26, hf⟩ := ob hf
        refine ev_cV_i i_X10_next_26 lk_X10_next_212 [] rfl rfl (by decide) (gK_of e26).1.1 (gK_of e26).1.2 (Nat.le_of_ble_eq_true rfl) (by decide) (e_X10_underWay e26) ?_
        refine ev_if_le (tg := 34) i_X10_next_29 (by decide) (fun c29 => ?_) (fun c29 => ?_)
        · rw [if_pos c29] at hf
          refine ev_aload_n i_X10_next_34 rfl ?_
          refine ev_dup i_X10_next_35 ?_
          obtain ⟨v36, e36, hf⟩ := ob hf
          refine ev_gI i_X10_next_36 fl_X10_194 rfl e36 ?_
          refine ev_iconst i_X10_next_39 lt_i_1 ?_
          refine ev_iadd i_X10_next_40 ?_
          obtain ⟨h41, e41, hf⟩ := ob hf
          refine ev_pI i_X10_next_41 fp_X10_next_194 rfl e41 ?_
          refine ev_aload_n i_X10_next_44 rfl ?_
          obtain ⟨v45, e45, hf⟩ := ob hf
          refine ev_gI i_X10_next_45 fl_X10_194 rfl e45 ?_
          cases hf
          exact ev_iiret i_X10_next_48 rfl
        · rw [if_neg c29] at hf
          refine ev_iconst i_X10_next_32 lt_i_m1 ?_
          cases hf
          exact ev_iiret i_X10_next_33 rfl
def f_X10_run (h : MH) (a0 : Nat) (x1 : Int32) : Option Int32 := gK h a0 10 ((gI h a0 10 28).bind fun v1 => (if v1 = 0 then (some (-1 : Int32)) else ((if x1 = 0 then ((gI h a0 10 29).bind fun v45 => some v45) else (if x1 = 1 then ((gI h a0 10 30).bind fun v50 => some v50) else (if x1 = 2 then ((gI h a0 10 31).bind fun v55 => some v55) else (if x1 = 3 then ((f_X10_underWay h a0).bind fun v60 => some v60) else (if x1 = 4 then ((gI h a0 10 32).bind fun v65 => some v65) else (some (-1 : Int32))))))))))
set_option maxRecDepth 20000 in
theorem e_X10_run {G : GG} {h : MH} {a0 : Nat} {x1 : Int32} {r : Int32} (hf : f_X10_run h a0 x1 = some r) : Ev G 1 M_X10_run 0 (ent M_X10_run [.ref a0, .int x1]) [] h (some (.int r)) h := by
  unfold f_X10_run at hf
  show Ev G 1 M_X10_run 0 [some (.ref a0), some (.int x1)] [] h (some (.int r)) h
  obtain ⟨-, hf⟩ := gK_of hf
  refine ev_aload_n i_X10_run_0 rfl ?_
  obtain ⟨v1, e1, hf⟩ := ob hf
  refine ev_gI i_X10_run_1 fl_X10_165 rfl e1 ?_
  refine ev_if_ne (tg := 9) i_X10_run_4 (by decide) (fun c4 => ?_) (fun c4 => ?_)
  · rw [if_neg c4] at hf
    refine ev_iload_n i_X10_run_9 rfl ?_
    by_cases c10_0 : x1 = 0
    · rw [if_pos c10_0] at hf
      refine ev_ts (tg := 44) 0 34 i_X10_run_10 c10_0 (by decide) ?_
      refine ev_aload_n i_X10_run_44 rfl ?_
      obtain ⟨v45, e45, hf⟩ := ob hf
      refine ev_gI i_X10_run_45 fl_X10_194 rfl e45 ?_
      cases hf
      exact ev_iiret i_X10_run_48 rfl
    rw [if_neg c10_0] at hf
    by_cases c10_1 : x1 = 1
    · rw [if_pos c10_1] at hf
      refine ev_ts (tg := 49) 1 39 i_X10_run_10 c10_1 (by decide) ?_
      refine ev_aload_n i_X10_run_49 rfl ?_
      obtain ⟨v50, e50, hf⟩ := ob hf
      refine ev_gI i_X10_run_50 fl_X10_197 rfl e50 ?_
      cases hf
      exact ev_iiret i_X10_run_53 rfl
    rw [if_neg c10_1] at hf
    by_cases c10_2 : x1 = 2
    · rw [if_pos c10_2] at hf
      refine ev_ts (tg := 54) 2 44 i_X10_run_10 c10_2 (by decide) ?_
      refine ev_aload_n i_X10_run_54 rfl ?_
      obtain ⟨v55, e55, hf⟩ := ob hf
      refine ev_gI i_X10_run_55 fl_X10_200 rfl e55 ?_
      cases hf
      exact ev_iiret i_X10_run_58 rfl
    rw [if_neg c10_2] at hf
    by_cases c10_3 : x1 = 3
    · rw [if_pos c10_3] at hf
      refine ev_ts (tg := 59) 3 49 i_X10_run_10 c10_3 (by decide) ?_
      refine ev_aload_n i_X10_run_59 rfl ?_
      obtain ⟨v60, e60, hf⟩ := ob hf
      refine ev_cV_i i_X10_run_60 lk_X10_run_212 [] rfl rfl (by decide) (gK_of e60).1.1 (gK_of e60).1.2 (Nat.le_of_ble_eq_true rfl) (by decide) (e_X10_underWay e60) ?_
      cases hf
      exact ev_iiret i_X10_run_63 rfl
    rw [if_neg c10_3] at hf
    by_cases c10_4 : x1 = 4
    · rw [if_pos c10_4] at hf
      refine ev_ts (tg := 64) 4 54 i_X10_run_10 c10_4 (by decide) ?_
      refine ev_aload_n i_X10_run_64 rfl ?_
      obtain ⟨v65, e65, hf⟩ := ob hf
      refine ev_gI i_X10_run_65 fl_X10_203 rfl e65 ?_
      cases hf
      exact ev_iiret i_X10_run_68 rfl
    rw [if_neg c10_4] at hf
    refine ev_tsOut (tg := 69) i_X10_run_10 (ts_out (n := 4) (by decide) (fun k hk => by rcases (show k = 0 ∨ k = 1 ∨ k = 2 ∨ k = 3 ∨ k = 4 by omega) with rfl | rfl | rfl | rfl | rfl <;> assumption)) (by decide) ?_
    refine ev_iconst i_X10_run_69 lt_i_m1 ?_
    cases hf
    exact ev_iiret i_X10_run_70 rfl
  · rw [if_pos c4] at hf
    refine ev_iconst i_X10_run_7 lt_i_m1 ?_
    cases hf
    exact ev_iiret i_X10_run_8 rfl
def f_X10_packet (h : MH) (a0 : Nat) (x1 : Int32) (x2 : Int32) : Option Int32 := gK h a0 10 ((f_X10_isPacket h a0 x1).bind fun v2 => (if v2 = 0 then (some (-1 : Int32)) else ((if x2 = 0 then ((gR h a0 10 33).bind fun b45 => (aI h b45 x1).bind fun v49 => some v49) else (if x2 = 1 then ((gR h a0 10 34).bind fun b52 => (aI h b52 x1).bind fun v56 => some v56) else (if x2 = 2 then ((gR h a0 10 36).bind fun b59 => (aI h b59 x1).bind fun v63 => (if v63 = (-1 : Int32) then ((gR h a0 10 35).bind fun b69 => (aI h b69 x1).bind fun v73 => some v73) else (some (-1 : Int32)))) else (if x2 = 3 then ((gR h a0 10 36).bind fun b80 => (aI h b80 x1).bind fun v84 => some v84) else (if x2 = 4 then ((gR h a0 10 37).bind fun b87 => (aI h b87 x1).bind fun v91 => some v91) else ((gR h a0 10 37).bind fun b99 => (aI h b99 x1).bind fun v103 => (f_X10_isIn h x2 (100 : Int32) ((99 : Int32) + v103)).bind fun v105 => (if v105 = 0 then (some (-1 : Int32)) else ((gR h a0 10 38).bind fun b112 => (aI h b112 ((((8 : Int32) * x1) + x2) - (100 : Int32))).bind fun v124 => some v124)))))))))))
set_option maxRecDepth 20000 in
theorem e_X10_packet {G : GG} {h : MH} {a0 : Nat} {x1 : Int32} {x2 : Int32} {r : Int32} (hf : f_X10_packet h a0 x1 x2 = some r) : Ev G 2 M_X10_packet 0 (ent M_X10_packet [.ref a0, .int x1, .int x2]) [] h (some (.int r)) h := by
  unfold f_X10_packet at hf
  show Ev G 2 M_X10_packet 0 [some (.ref a0), some (.int x1), some (.int x2)] [] h (some (.int r)) h
  obtain ⟨-, hf⟩ := gK_of hf
  refine ev_aload_n i_X10_packet_0 rfl ?_
  refine ev_iload_n i_X10_packet_1 rfl ?_
  obtain ⟨v2, e2, hf⟩ := ob hf
  refine ev_cV_i i_X10_packet_2 lk_X10_packet_206 [.int x1] rfl rfl (by decide) (gK_of e2).1.1 (gK_of e2).1.2 (Nat.le_of_ble_eq_true rfl) (by decide) (e_X10_isPacket e2) ?_
  refine ev_if_ne (tg := 10) i_X10_packet_5 (by decide) (fun c5 => ?_) (fun c5 => ?_)
  · rw [if_neg c5] at hf
    refine ev_iload_n i_X10_packet_10 rfl ?_
    by_cases c11_0 : x2 = 0
    · rw [if_pos c11_0] at hf
      refine ev_ts (tg := 44) 0 33 i_X10_packet_11 c11_0 (by decide) ?_
      refine ev_aload_n i_X10_packet_44 rfl ?_
      obtain ⟨b45, e45, hf⟩ := ob hf
      refine ev_gR i_X10_packet_45 fl_X10_60 rfl e45 ?_
      refine ev_iload_n i_X10_packet_48 rfl ?_
      obtain ⟨v49, e49, hf⟩ := ob hf
      refine ev_aI i_X10_packet_49 e49 ?_
      cases hf
      exact ev_iiret i_X10_packet_50 rfl
    rw [if_neg c11_0] at hf
    by_cases c11_1 : x2 = 1
    · rw [if_pos c11_1] at hf
      refine ev_ts (tg := 51) 1 40 i_X10_packet_11 c11_1 (by decide) ?_
      refine ev_aload_n i_X10_packet_51 rfl ?_
      obtain ⟨b52, e52, hf⟩ := ob hf
      refine ev_gR i_X10_packet_52 fl_X10_63 rfl e52 ?_
      refine ev_iload_n i_X10_packet_55 rfl ?_
      obtain ⟨v56, e56, hf⟩ := ob hf
      refine ev_aI i_X10_packet_56 e56 ?_
      cases hf
      exact ev_iiret i_X10_packet_57 rfl
    rw [if_neg c11_1] at hf
    by_cases c11_2 : x2 = 2
    · rw [if_pos c11_2] at hf
      refine ev_ts (tg := 58) 2 47 i_X10_packet_11 c11_2 (by decide) ?_
      refine ev_aload_n i_X10_packet_58 rfl ?_
      obtain ⟨b59, e59, hf⟩ := ob hf
      refine ev_gR i_X10_packet_59 fl_X10_69 rfl e59 ?_
      refine ev_iload_n i_X10_packet_62 rfl ?_
      obtain ⟨v63, e63, hf⟩ := ob hf
      refine ev_aI i_X10_packet_63 e63 ?_
      refine ev_iconst i_X10_packet_64 lt_i_m1 ?_
      refine ev_icmp_ne (tg := 77) i_X10_packet_65 (by decide) (fun c65 => ?_) (fun c65 => ?_)
      · rw [if_neg c65] at hf
        refine ev_iconst i_X10_packet_77 lt_i_m1 ?_
        cases hf
        exact ev_iiret i_X10_packet_78 rfl
      · rw [if_pos c65] at hf
        refine ev_aload_n i_X10_packet_68 rfl ?_
        obtain ⟨b69, e69, hf⟩ := ob hf
        refine ev_gR i_X10_packet_69 fl_X10_66 rfl e69 ?_
        refine ev_iload_n i_X10_packet_72 rfl ?_
        obtain ⟨v73, e73, hf⟩ := ob hf
        refine ev_aI i_X10_packet_73 e73 ?_
        refine ev_goto (tg := 78) i_X10_packet_74 (by decide) ?_
        cases hf
        exact ev_iiret i_X10_packet_78 rfl
    rw [if_neg c11_2] at hf
    by_cases c11_3 : x2 = 3
    · rw [if_pos c11_3] at hf
      refine ev_ts (tg := 79) 3 68 i_X10_packet_11 c11_3 (by decide) ?_
      refine ev_aload_n i_X10_packet_79 rfl ?_
      obtain ⟨b80, e80, hf⟩ := ob hf
      refine ev_gR i_X10_packet_80 fl_X10_69 rfl e80 ?_
      refine ev_iload_n i_X10_packet_83 rfl ?_
      obtain ⟨v84, e84, hf⟩ := ob hf
      refine ev_aI i_X10_packet_84 e84 ?_
      cases hf
      exact ev_iiret i_X10_packet_85 rfl
    rw [if_neg c11_3] at hf
    by_cases c11_4 : x2 = 4
    · rw [if_pos c11_4] at hf
      refine ev_ts (tg := 86) 4 75 i_X10_packet_11 c11_4 (by decide) ?_
      refine ev_aload_n i_X10_packet_86 rfl ?_
      obtain ⟨b87, e87, hf⟩ := ob hf
      refine ev_gR i_X10_packet_87 fl_X10_72 rfl e87 ?_
      refine ev_iload_n i_X10_packet_90 rfl ?_
      obtain ⟨v91, e91, hf⟩ := ob hf
      refine ev_aI i_X10_packet_91 e91 ?_
      cases hf
      exact ev_iiret i_X10_packet_92 rfl
    rw [if_neg c11_4] at hf
    refine ev_tsOut (tg := 93) i_X10_packet_11 (ts_out (n := 4) (by decide) (fun k hk => by rcases (show k = 0 ∨ k = 1 ∨ k = 2 ∨ k = 3 ∨ k = 4 by omega) with rfl | rfl | rfl | rfl | rfl <;> assumption)) (by decide) ?_
    refine ev_iload_n i_X10_packet_93 rfl ?_
    refine ev_bipush i_X10_packet_94 lt_b_100 ?_
    refine ev_bipush i_X10_packet_96 lt_b_99 ?_
    refine ev_aload_n i_X10_packet_98 rfl ?_
    obtain ⟨b99, e99, hf⟩ := ob hf
    refine ev_gR i_X10_packet_99 fl_X10_72 rfl e99 ?_
    refine ev_iload_n i_X10_packet_102 rfl ?_
    obtain ⟨v103, e103, hf⟩ := ob hf
    refine ev_aI i_X10_packet_103 e103 ?_
    refine ev_iadd i_X10_packet_104 ?_
    obtain ⟨v105, e105, hf⟩ := ob hf
    refine ev_cS_i i_X10_packet_105 lk_X10_packet_94 [.int x2, .int (100 : Int32), .int ((99 : Int32) + v103)] rfl rfl (by decide) (Nat.le_of_ble_eq_true rfl) (by decide) (e_X10_isIn e105) ?_
    refine ev_if_eq (tg := 128) i_X10_packet_108 (by decide) (fun c108 => ?_) (fun c108 => ?_)
    · rw [if_pos c108] at hf
      refine ev_iconst i_X10_packet_128 lt_i_m1 ?_
      cases hf
      exact ev_iiret i_X10_packet_129 rfl
    · rw [if_neg c108] at hf
      refine ev_aload_n i_X10_packet_111 rfl ?_
      obtain ⟨b112, e112, hf⟩ := ob hf
      refine ev_gR i_X10_packet_112 fl_X10_75 rfl e112 ?_
      refine ev_bipush i_X10_packet_115 lt_b_8 ?_
      refine ev_iload_n i_X10_packet_117 rfl ?_
      refine ev_imul i_X10_packet_118 ?_
      refine ev_iload_n i_X10_packet_119 rfl ?_
      refine ev_iadd i_X10_packet_120 ?_
      refine ev_bipush i_X10_packet_121 lt_b_100 ?_
      refine ev_isub i_X10_packet_123 ?_
      obtain ⟨v124, e124, hf⟩ := ob hf
      refine ev_aI i_X10_packet_124 e124 ?_
      refine ev_goto (tg := 129) i_X10_packet_125 (by decide) ?_
      cases hf
      exact ev_iiret i_X10_packet_129 rfl
  · rw [if_pos c5] at hf
    refine ev_iconst i_X10_packet_8 lt_i_m1 ?_
    cases hf
    exact ev_iiret i_X10_packet_9 rfl

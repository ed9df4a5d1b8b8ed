/-! ===== the law ===== -/
theorem gr_big {a k : Nat} (hk : 40 ≤ k) : gr a k = none := by
  unfold gr
  repeat' split
  all_goals first | rfl | (exfalso; omega)
theorem hB_Gr : Gr hB := by
  refine ⟨by rw [hB_N]; exact Nat.le_refl _, hB_K, hB_L, fun a k b ha hr => ?_⟩
  by_cases hk : k < 40
  · rcases hB_R a ha k hk with q | q
    · rw [q] at hr; cases hr
    · rw [q]; exact hr
  · rw [gr_big (by omega)] at hr; cases hr
def z0 : ZS := (netA 1, [], ([], -1), none)
theorem z0_ok : OkV z0 := by
  have q := netA_ok (n := 1) (by decide) (by decide)
  exact ⟨⟨q.1, q.2.1, q.2.2.1, OkP.nil, ⟨by simp [z0, zT], fun s hs => by simp [z0, zT] at hs⟩, trivial⟩, q.2.2.2, trivial⟩
theorem hB_n : mm_I hB 1 6 = nI 1 ∧ mm_I hB 1 7 = nI 0 ∧ mm_I hB 1 4 = 0 ∧ mm_I hB 1 8 = nI 0 ∧ mm_I hB 90 7 = nI 0 ∧ mm_I hB 90 8 = 0 ∧ mm_I hB 90 9 = 0 ∧ mm_I hB 101 1 = nI 0 ∧ mm_I hB 228 1 = nI 0 ∧ mm_I hB 228 2 = nI 0 ∧ mm_I hB 228 3 = -1 ∧ mm_I hB 106 4 = 0 := by decide +kernel
theorem hB_p : ∀ k, k < 28 → mm_I hB 2 k = -1 := by decide +kernel
theorem hB_r : ∀ r, r < 14 → mm_I hB (6 + 6 * r) 5 = nI 0 ∧ ∀ m, m < 16 → mm_I hB (6 + 6 * r + 5) m = nI 4 := by decide +kernel
theorem hB_m : mm_I hB 230 0 = nI 1 ∧ mm_I hB 230 1 = nI 0 ∧ mm_I hB 230 2 = nI 0 ∧ mm_I hB 230 21 = 0 ∧ mm_I hB 230 24 = nI 0 ∧ mm_I hB 230 19 = nI 0 ∧ mm_I hB 230 20 = -1 ∧ mm_I hB 230 28 = 0 := by decide +kernel
theorem hB_t : (∀ k, k < 28 → mm_I hB 231 k = nI 0) ∧ ∀ r, r < 14 → mm_I hB 234 r = nI 0 := by decide +kernel
theorem hB_CX : CX hB z0 := by
  obtain ⟨n1, n2, n3, n4, n5, n6, n7, n8, n9, n10, n11, n12⟩ := hB_n
  refine ⟨hB_Gr, ⟨⟨⟨n1, n2, fun k hk => hB_p k hk, fun i hi => absurd hi (Nat.not_lt_zero _)⟩, fun r hr => ⟨(hB_r r hr).1, fun i hi => absurd hi (Nat.not_lt_zero _), fun m hm => (hB_r r hr).2 m hm⟩, n5, fun i hi => absurd hi (Nat.not_lt_zero _)⟩, Or.inl n6, Or.inl n7⟩, Or.inl n3, ?_, ⟨n8, by simp [z0, zP], fun i s hi => by simp [z0, zP] at hi⟩, ⟨n9, n10, n11, fun i s hi => by simp [z0, zT] at hi⟩, n12⟩
  rw [n4]
  have : lkS (zA z0) = 0 := by
    rw [lkS_def]
    exact cnt_0 28 (fun j _ => rfl)
  rw [this]
theorem hB_MX : MX hB z0 := by
  obtain ⟨n1, n2, n3, n4, n5, n6, n7, n8⟩ := hB_m
  exact ⟨⟨n1, n2, n3, fun k hk => hB_t.1 k hk, fun k hk h0 => absurd rfl h0, fun i hi => absurd hi (Nat.not_lt_zero _), fun r hr => hB_t.2 r hr, fun r hr i hi => absurd hi (Nat.not_lt_zero _), fun i hi => absurd hi (Nat.not_lt_zero _)⟩, Or.inl n4, ⟨n5, by simp [z0, zP], fun i s hi => by simp [z0, zP] at hi⟩, ⟨n6, n7, fun i s hi => by simp [z0, zT] at hi⟩, n8⟩
def Iv (h : MH) (z : ZS) (c : Nat) : Prop := OkV z ∧ CX h z ∧ MX h z ∧ mm_N h ≤ 252 + c ∧ mm_S h ≤ 100000 + 6 * c
theorem Iv.st {h h1 h2 : MH} {z z' : ZS} {c : Nat} (I : Iv h z c) (C : CX h1 z') (F : CF h h1) (k : OkV z') (M : MX h2 z') (o : Only h1 h2 MF) : Iv h2 z' (c + 1) := by
  obtain ⟨-, -, -, i4, i5⟩ := I
  have f1 := F.1
  have f2 := F.2.1
  refine ⟨k, CX.keep k.1 C o (fun a q => by unfold MF at q; unfold JF; omega) (JK.only o (fun a q => by unfold MF at q; omega) C.2.1), M, ?_, ?_⟩
  · rw [o.2.2.2.1]; omega
  · rw [o.2.2.2.2.1]; omega
theorem Iv.up {h : MH} {z : ZS} {c : Nat} (I : Iv h z c) : Iv h z (c + 1) := ⟨I.1, I.2.1, I.2.2.1, by have := I.2.2.2.1; omega, by have := I.2.2.2.2; omega⟩
theorem sX_g {L : Nat} {xs : Nat → Int32} {j : Nat} (hj : j < L) (hL : L < 2 ^ 31) : sX L xs (nI j) = some (xs j) := by
  unfold sX
  rw [if_pos (in_ok hj hL), nI_clamp (by omega)]
theorem if_eq {α β γ : Type} {a : α} {b : β} {c : β} {d : α} [DecidableEq α] {x y : γ} (e : a = d) : (if ((a, b) : α × β).1 = ((d, c) : α × β).1 then x else y) = x := if_pos e
set_option maxHeartbeats 4000000 in
set_option maxRecDepth 20000 in
theorem law_step {L : Nat} {xs : Nat → Int32} (hL : L ≤ 3584) (k : MH → Option (Int32 × MH)) {f : Nat} {h : MH} {z : ZS} {i : Nat} {Q : Option (Int32 × MH) → Prop} (hi : 7 * i + 7 ≤ L) (I : Iv h z i) (go : ∀ h2 z2, Iv h2 z2 (i + 1) → Q (f_L_law_L18 k L xs 0 230 f h2 (nI (7 * i) + 7))) : Q (f_L_law_L18 k L xs 0 230 (f + 1) h (nI (7 * i))) := by
  have g0 : sX L xs (nI (7 * i)) = some (xs (7 * i)) := sX_g (by omega) (by omega)
  have g1 : sX L xs (nI (7 * i) + 1) = some (xs (7 * i + 1)) := by rw [cl_add]; exact sX_g (by omega) (by omega)
  have g2 : sX L xs (nI (7 * i) + 2) = some (xs (7 * i + 2)) := by rw [cl_add]; exact sX_g (by omega) (by omega)
  have g3 : sX L xs (nI (7 * i) + 3) = some (xs (7 * i + 3)) := by rw [cl_add]; exact sX_g (by omega) (by omega)
  have g4 : sX L xs (nI (7 * i) + 4) = some (xs (7 * i + 4)) := by rw [cl_add]; exact sX_g (by omega) (by omega)
  have g5 : sX L xs (nI (7 * i) + 5) = some (xs (7 * i + 5)) := by rw [cl_add]; exact sX_g (by omega) (by omega)
  have g6 : sX L xs (nI (7 * i) + 6) = some (xs (7 * i + 6)) := by rw [cl_add]; exact sX_g (by omega) (by omega)
  have cond : ¬ (Int32.ofNat L - 7 < nI (7 * i)) := by
    rw [show Int32.ofNat L = nI L from rfl, Int32.lt_iff_toInt_lt, show (7 : Int32) = nI 7 from rfl, pk_sub_toInt (by omega) (by decide), nI_toInt (by omega)]
    omega
  obtain ⟨hz, C, M, -, -⟩ := id I
  have mc : ∀ {h1 : MH}, CF h h1 → MX h1 z := fun F => M.cong F.2.2
  rw [f_L_law_L18, if_neg cond, g0, bS]
  generalize xs (7 * i) &&& 31 = v
  by_cases c0 : v = 0
  · obtain ⟨h1, e1, C1, F1⟩ := x_net hz.1 C (xs (7 * i + 1))
    obtain ⟨h2, e2, M2, o2⟩ := y_net C1.1 (mc F1) (xs (7 * i + 1))
    rw [if_pos c0, g1, bS, e1, bS, bS, e2, bS, if_eq rfl]
    exact go h2 _ (I.st C1 F1 (k_net hz (xs (7 * i + 1))) M2 o2)
  rw [if_neg c0]
  by_cases c1 : v = 1
  · obtain ⟨h1, e1, C1, F1⟩ := x_link hz.1 C (xs (7 * i + 1)) (xs (7 * i + 2)) (xs (7 * i + 3)) (xs (7 * i + 4))
    obtain ⟨h2, e2, M2, o2⟩ := y_link hz.1 C1.1 (mc F1) (xs (7 * i + 1)) (xs (7 * i + 2)) (xs (7 * i + 3)) (xs (7 * i + 4))
    rw [if_pos c1, g1, bS, g2, bS, g3, bS, g4, bS, e1, bS, bS, bS, bS, bS, e2, bS, if_eq rfl]
    exact go h2 _ (I.st C1 F1 (k_link hz (xs (7 * i + 1)) (xs (7 * i + 2)) (xs (7 * i + 3)) (xs (7 * i + 4))) M2 o2)
  rw [if_neg c1]
  by_cases c2 : v = 2
  · obtain ⟨h1, e1, C1, F1⟩ := x_host hz.1 C (xs (7 * i + 1)) (xs (7 * i + 2))
    obtain ⟨h2, e2, M2, o2⟩ := y_host hz.1 C1.1 (mc F1) (xs (7 * i + 1)) (xs (7 * i + 2))
    rw [if_pos c2, g1, bS, g2, bS, e1, bS, bS, bS, e2, bS, if_eq rfl]
    exact go h2 _ (I.st C1 F1 (k_host hz (xs (7 * i + 1)) (xs (7 * i + 2))) M2 o2)
  rw [if_neg c2]
  by_cases c3 : v = 3
  · obtain ⟨h1, e1, C1, F1⟩ := x_unplug hz.1 C (xs (7 * i + 1)) (xs (7 * i + 2))
    obtain ⟨h2, e2, M2, o2⟩ := y_unplug hz.1 C1.1 (mc F1) (xs (7 * i + 1)) (xs (7 * i + 2))
    rw [if_pos c3, g1, bS, g2, bS, e1, bS, bS, bS, e2, bS, if_eq rfl]
    exact go h2 _ (I.st C1 F1 (k_unplug hz (xs (7 * i + 1)) (xs (7 * i + 2))) M2 o2)
  rw [if_neg c3]
  by_cases c4 : v = 4
  · obtain ⟨h1, e1, C1, F1⟩ := x_rule hz.1 C (xs (7 * i + 1)) (xs (7 * i + 2)) (xs (7 * i + 3)) (xs (7 * i + 4)) (xs (7 * i + 5)) (xs (7 * i + 6))
    obtain ⟨h2, e2, M2, o2⟩ := y_rule hz.1 C1.1 (mc F1) (xs (7 * i + 1)) (xs (7 * i + 2)) (xs (7 * i + 3)) (xs (7 * i + 4)) (xs (7 * i + 5)) (xs (7 * i + 6))
    rw [if_pos c4, g1, bS, g2, bS, g3, bS, g4, bS, g5, bS, g6, bS, e1, bS, bS, bS, bS, bS, bS, bS, e2, bS, if_eq rfl]
    exact go h2 _ (I.st C1 F1 (k_rule hz (xs (7 * i + 1)) (xs (7 * i + 2)) (xs (7 * i + 3)) (xs (7 * i + 4)) (xs (7 * i + 5)) (xs (7 * i + 6))) M2 o2)
  rw [if_neg c4]
  by_cases c5 : v = 5
  · obtain ⟨h1, e1, C1, F1⟩ := x_strike hz.1 C (xs (7 * i + 1)) (xs (7 * i + 2)) (xs (7 * i + 3))
    obtain ⟨h2, e2, M2, o2⟩ := y_strike hz.1 C1.1 (mc F1) (xs (7 * i + 1)) (xs (7 * i + 2)) (xs (7 * i + 3))
    rw [if_pos c5, g1, bS, g2, bS, g3, bS, e1, bS, bS, bS, bS, e2, bS, if_eq rfl]
    exact go h2 _ (I.st C1 F1 (k_strike hz (xs (7 * i + 1)) (xs (7 * i + 2)) (xs (7 * i + 3))) M2 o2)
  rw [if_neg c5]
  by_cases c6 : v = 6
  · rw [if_pos c6, g1, bS, g2, bS]
    unfold f_L_law_j447 f_L_law_j469
    rw [g1, g2]
    by_cases cc : xs (7 * i + 2) = 0
    · obtain ⟨h1, e1, C1, F1⟩ := x_copy hz.1 C (xs (7 * i + 1)) 0
      obtain ⟨h2, e2, M2, o2⟩ := y_copy hz.1 C1.1 (mc F1) (xs (7 * i + 1)) 0
      rw [if_pos cc, e1, bS, bS, bS, if_pos cc, e2, bS, if_eq rfl]
      exact go h2 _ (I.st C1 F1 (k_copy hz (xs (7 * i + 1)) 0) M2 o2)
    · obtain ⟨h1, e1, C1, F1⟩ := x_copy hz.1 C (xs (7 * i + 1)) 1
      obtain ⟨h2, e2, M2, o2⟩ := y_copy hz.1 C1.1 (mc F1) (xs (7 * i + 1)) 1
      rw [if_neg cc, e1, bS, bS, bS, if_neg cc, e2, bS, if_eq rfl]
      exact go h2 _ (I.st C1 F1 (k_copy hz (xs (7 * i + 1)) 1) M2 o2)
  rw [if_neg c6]
  by_cases c7 : v = 7
  · obtain ⟨h1, e1, C1, F1⟩ := x_want hz.1 C (xs (7 * i + 1)) (xs (7 * i + 2)) (xs (7 * i + 3)) (xs (7 * i + 4)) (xs (7 * i + 5)) (xs (7 * i + 6))
    obtain ⟨h2, e2, M2, o2⟩ := y_want hz.1 C1.1 (mc F1) (xs (7 * i + 1)) (xs (7 * i + 2)) (xs (7 * i + 3)) (xs (7 * i + 4)) (xs (7 * i + 5)) (xs (7 * i + 6))
    rw [if_pos c7, g1, bS, g2, bS, g3, bS, g4, bS, g5, bS, g6, bS, e1, bS, bS, bS, bS, bS, bS, bS, e2, bS, if_eq rfl]
    exact go h2 _ (I.st C1 F1 (k_want hz (xs (7 * i + 1)) (xs (7 * i + 2)) (xs (7 * i + 3)) (xs (7 * i + 4)) (xs (7 * i + 5)) (xs (7 * i + 6))) M2 o2)
  rw [if_neg c7]
  by_cases c8 : v = 8
  · obtain ⟨h1, e1, C1, F1⟩ := x_unwant hz.1 C (xs (7 * i + 1))
    obtain ⟨h2, e2, M2, o2⟩ := y_unwant hz.1 C1.1 (mc F1) (xs (7 * i + 1))
    rw [if_pos c8, g1, bS, e1, bS, bS, e2, bS, if_eq rfl]
    exact go h2 _ (I.st C1 F1 (k_unwant hz (xs (7 * i + 1))) M2 o2)
  rw [if_neg c8]
  by_cases c9 : v = 9
  · obtain ⟨h1, e1, C1, F1⟩ := x_look hz.1 C (xs (7 * i + 1))
    obtain ⟨h2, e2, M2, o2⟩ := y_look hz.1 C1.1 (mc F1) (xs (7 * i + 1))
    rw [if_pos c9, g1, bS, e1, bS, bS, e2, bS, if_eq rfl]
    exact go h2 _ (I.st C1 F1 hz M2 o2)
  rw [if_neg c9]
  by_cases c10 : v = 10
  · obtain ⟨h1, e1, C1, F1⟩ := x_class hz.1 C (xs (7 * i + 1))
    obtain ⟨h2, e2, M2, o2⟩ := y_class hz.1 C1.1 (mc F1) (xs (7 * i + 1))
    rw [if_pos c10, g1, bS, e1, bS, bS, e2, bS, if_eq rfl]
    exact go h2 _ (I.st C1 F1 hz M2 o2)
  rw [if_neg c10]
  by_cases c11 : v = 11
  · obtain ⟨h1, e1, C1, F1⟩ := x_way hz.1 C (xs (7 * i + 1)) (xs (7 * i + 2)) (xs (7 * i + 3))
    obtain ⟨h2, e2, M2, o2⟩ := y_way hz.1 C1.1 (mc F1) (xs (7 * i + 1)) (xs (7 * i + 2)) (xs (7 * i + 3))
    rw [if_pos c11, g1, bS, g2, bS, g3, bS, e1, bS, bS, bS, bS, e2, bS, if_eq rfl]
    exact go h2 _ (I.st C1 F1 (k_way hz (xs (7 * i + 1)) (xs (7 * i + 2)) (xs (7 * i + 3))) M2 o2)
  rw [if_neg c11]
  by_cases c12 : v = 12
  · have e1 := x_on hz.1 C (xs (7 * i + 1))
    have e2 := y_on hz.1 C.1 M (xs (7 * i + 1))
    rw [if_pos c12, g1, bS, e1, bS, bS, e2, bS, if_pos rfl]
    exact go h _ I.up
  rw [if_neg c12]
  by_cases c13 : v = 13
  · obtain ⟨h1, e1, C1, F1⟩ := x_holds hz.1 C (xs (7 * i + 1)) (xs (7 * i + 2))
    obtain ⟨h2, e2, M2, o2⟩ := y_holds hz.1 C1.1 (mc F1) (xs (7 * i + 1)) (xs (7 * i + 2))
    rw [if_pos c13, g1, bS, g2, bS, e1, bS, bS, bS, e2, bS, if_eq rfl]
    exact go h2 _ (I.st C1 F1 hz M2 o2)
  rw [if_neg c13]
  by_cases c14 : v = 14
  · obtain ⟨h1, e1, C1, F1⟩ := x_kept hz.1 C (xs (7 * i + 1))
    obtain ⟨h2, e2, M2, o2⟩ := y_kept hz.1 C1.1 (mc F1) (xs (7 * i + 1))
    rw [if_pos c14, g1, bS, e1, bS, bS, e2, bS, if_eq rfl]
    exact go h2 _ (I.st C1 F1 hz M2 o2)
  rw [if_neg c14]
  by_cases c15 : v = 15
  · obtain ⟨h1, e1, C1, F1⟩ := x_why hz.1 C (xs (7 * i + 1)) (xs (7 * i + 2))
    obtain ⟨h2, e2, M2, o2⟩ := y_why hz.1 C1.1 (mc F1) (xs (7 * i + 1)) (xs (7 * i + 2))
    rw [if_pos c15, g1, bS, g2, bS, e1, bS, bS, bS, e2, bS, if_eq rfl]
    exact go h2 _ (I.st C1 F1 hz M2 o2)
  rw [if_neg c15]
  by_cases c16 : v = 16
  · obtain ⟨h1, e1, C1, F1⟩ := x_least hz.1 C
    obtain ⟨h2, e2, M2, o2⟩ := y_least hz.1 C1.1 (mc F1)
    rw [if_pos c16, e1, bS, e2, bS, if_eq rfl]
    exact go h2 _ (I.st C1 F1 (k_least hz) M2 o2)
  rw [if_neg c16]
  by_cases c17 : v = 17
  · obtain ⟨h1, e1, C1, F1⟩ := x_orders hz.1 C
    obtain ⟨h2, e2, M2, o2⟩ := y_orders hz.1 hz.2.1 C1.1 (mc F1)
    rw [if_pos c17, e1, bS, e2, bS, if_eq rfl]
    exact go h2 _ (I.st C1 F1 hz M2 o2)
  rw [if_neg c17]
  by_cases c18 : v = 18
  · obtain ⟨h1, e1, C1, F1⟩ := x_order hz.1 C (xs (7 * i + 1))
    obtain ⟨h2, e2, M2, o2⟩ := y_order hz.1 hz.2.1 C1.1 (mc F1) (xs (7 * i + 1))
    rw [if_pos c18, g1, bS, e1, bS, bS, e2, bS, if_eq rfl]
    exact go h2 _ (I.st C1 F1 (k_order hz (xs (7 * i + 1))) M2 o2)
  rw [if_neg c18]
  by_cases c19 : v = 19
  · obtain ⟨h1, e1, C1, F1⟩ := x_round hz.1 C (xs (7 * i + 1))
    obtain ⟨h2, e2, M2, o2⟩ := y_round hz.1 C1.1 (mc F1) (xs (7 * i + 1))
    rw [if_pos c19, g1, bS, e1, bS, bS, e2, bS, if_eq rfl]
    exact go h2 _ (I.st C1 F1 (k_round hz (xs (7 * i + 1))) M2 o2)
  rw [if_neg c19]
  by_cases c20 : v = 20
  · obtain ⟨h1, e1, C1, F1⟩ := x_empty hz.1 C
    obtain ⟨h2, e2, M2, o2⟩ := y_empty C1.1 (mc F1)
    rw [if_pos c20, e1, bS, e2, bS]
    exact go h2 _ (I.st C1 F1 (k_empty hz) M2 o2)
  rw [if_neg c20]
  by_cases c21 : v = 21
  · have e1 := x_plan hz.1 C (xs (7 * i + 1))
    have e2 := y_plan hz.1 C.1 M (xs (7 * i + 1))
    rw [if_pos c21, g1, bS, e1, bS, bS, e2, bS, if_pos rfl]
    exact go h _ I.up
  rw [if_neg c21]
  by_cases c22 : v = 22
  · obtain ⟨h1, e1, C1, F1⟩ := x_mid hz.1 C (xs (7 * i + 1))
    obtain ⟨h2, e2, M2, o2⟩ := y_mid hz.1 C1.1 (mc F1) (xs (7 * i + 1))
    rw [if_pos c22, g1, bS, e1, bS, bS, e2, bS, if_eq rfl]
    exact go h2 _ (I.st C1 F1 hz M2 o2)
  rw [if_neg c22]
  by_cases c23 : v = 23
  · obtain ⟨h1, e1, C1, F1⟩ := x_begin hz.1 C
    obtain ⟨h2, e2, M2, o2⟩ := y_begin C1.1 (mc F1)
    rw [if_pos c23, e1, bS, e2, bS, if_eq rfl]
    exact go h2 _ (I.st C1 F1 (k_begin hz) M2 o2)
  rw [if_neg c23]
  by_cases c24 : v = 24
  · obtain ⟨h1, e1, C1, F1⟩ := x_send hz.1 C (xs (7 * i + 1)) (xs (7 * i + 2))
    obtain ⟨h2, e2, M2, o2⟩ := y_send hz.1 C1.1 (mc F1) (xs (7 * i + 1)) (xs (7 * i + 2))
    rw [if_pos c24, g1, bS, g2, bS, e1, bS, bS, bS, e2, bS, if_eq rfl]
    exact go h2 _ (I.st C1 F1 (k_send hz (xs (7 * i + 1)) (xs (7 * i + 2))) M2 o2)
  rw [if_neg c24]
  by_cases c25 : v = 25
  · obtain ⟨h1, e1, C1, F1⟩ := x_hop hz.1 C (xs (7 * i + 1))
    obtain ⟨h2, e2, M2, o2⟩ := y_hop hz.1 C1.1 (mc F1) (xs (7 * i + 1))
    rw [if_pos c25, g1, bS, e1, bS, bS, e2, bS, if_eq rfl]
    exact go h2 _ (I.st C1 F1 (k_hop hz (xs (7 * i + 1))) M2 o2)
  rw [if_neg c25]
  by_cases c26 : v = 26
  · obtain ⟨h1, e1, C1, F1⟩ := x_change hz.1 C (xs (7 * i + 1))
    obtain ⟨h2, e2, M2, o2⟩ := y_change hz.1 C1.1 (mc F1) (xs (7 * i + 1))
    rw [if_pos c26, g1, bS, e1, bS, bS, e2, bS, if_eq rfl]
    exact go h2 _ (I.st C1 F1 (k_change hz (xs (7 * i + 1))) M2 o2)
  rw [if_neg c26]
  by_cases c27 : v = 27
  · obtain ⟨h1, e1, C1, F1⟩ := x_next hz.1 C
    obtain ⟨h2, e2, M2, o2⟩ := y_next hz.1 C1.1 (mc F1)
    rw [if_pos c27, e1, bS, e2, bS, if_eq rfl]
    exact go h2 _ (I.st C1 F1 (k_next hz) M2 o2)
  rw [if_neg c27]
  by_cases c28 : v = 28
  · have e1 := x_run hz.1 C (xs (7 * i + 1))
    have e2 := y_run hz.1 C.1 M (xs (7 * i + 1))
    rw [if_pos c28, g1, bS, e1, bS, bS, e2, bS, if_pos rfl]
    exact go h _ I.up
  rw [if_neg c28]
  by_cases c29 : v = 29
  · have e1 := x_packet hz.1 C (xs (7 * i + 1)) (xs (7 * i + 2))
    have e2 := y_packet hz.1 C.1 M (xs (7 * i + 1)) (xs (7 * i + 2))
    rw [if_pos c29, g1, bS, g2, bS, e1, bS, bS, bS, e2, bS, if_pos rfl]
    exact go h _ I.up
  rw [if_neg c29]
  exact go h _ I.up
theorem law_L {L : Nat} {xs : Nat → Int32} (hL : L ≤ 3584) :
    ∀ (n f : Nat) (h : MH) (z : ZS) (i : Nat), n + i = 512 → n < f → Iv h z i →
      ∃ h', f_L_law_L18 (fun he1072 => some ((1 : Int32), he1072)) L xs 0 230 f h (nI (7 * i)) = some (1, h') ∧ mm_N h' ≤ 252 + 512 ∧ mm_S h' ≤ 100000 + 6 * 512 := by
  have stop : ∀ (f : Nat) (h : MH) (z : ZS) (i : Nat), i ≤ 512 → L < 7 * i + 7 → Iv h z i → ∃ h', f_L_law_L18 (fun he1072 => some ((1 : Int32), he1072)) L xs 0 230 (f + 1) h (nI (7 * i)) = some (1, h') ∧ mm_N h' ≤ 252 + 512 ∧ mm_S h' ≤ 100000 + 6 * 512 := by
    intro f h z i hi hl I
    refine ⟨h, ?_, by have := I.2.2.2.1; omega, by have := I.2.2.2.2; omega⟩
    rw [f_L_law_L18, if_pos]
    rw [show Int32.ofNat L = nI L from rfl, Int32.lt_iff_toInt_lt, show (7 : Int32) = nI 7 from rfl, pk_sub_toInt (by omega) (by decide), nI_toInt (by omega)]
    omega
  intro n
  induction n with
  | zero =>
    intro f h z i hn hf I
    obtain ⟨f, rfl⟩ : ∃ g, f = g + 1 := ⟨f - 1, by omega⟩
    exact stop f h z i (by omega) (by omega) I
  | succ n ih =>
    intro f h z i hn hf I
    obtain ⟨f, rfl⟩ : ∃ g, f = g + 1 := ⟨f - 1, by omega⟩
    by_cases c : L < 7 * i + 7
    · exact stop f h z i (by omega) c I
    · refine law_step (Q := fun r => ∃ h', r = some (1, h') ∧ mm_N h' ≤ 252 + 512 ∧ mm_S h' ≤ 100000 + 6 * 512) hL _ (by omega) I (fun h2 z2 I2 => ?_)
      have := ih f h2 z2 (i + 1) (by omega) (by omega) I2
      rw [show nI (7 * i) + (7 : Int32) = nI (7 * (i + 1)) by rw [cl_add]; congr 1]
      exact this
theorem law_ok (L : Nat) (xs : Nat → Int32) (hL : L ≤ 3584) : ∃ h' : MH, f_L_law L xs mh0 = some (1, h') ∧ mm_N h' ≤ 600000 ∧ mm_S h' ≤ 7302250 := by
  have S := hB_S
  obtain ⟨h', e, n1, n2⟩ := law_L (xs := xs) hL 512 fuel hB z0 0 rfl (by decide) ⟨z0_ok, hB_CX, hB_MX, by rw [hB_N]; exact Nat.le_refl _, by omega⟩
  refine ⟨h', ?_, by omega, by omega⟩
  unfold f_L_law
  rw [show mm_N mh0 = 0 from rfl, hA_ok, bS, hB_ok, bS, hA_N]
  exact e

/-! ===== the class's calls that leave the scene as it is ===== -/
section
variable {h : MH} {z : ZS}
theorem x_on (hz : OkZ z) (C : CX h z) (x : Int32) : f_X9_on h 0 x = some (opOn z x) := by
  obtain ⟨hG, -, -, -, -, W, -⟩ := C
  have hT := hz.2.2.2.2.1.1
  unfold f_X9_on opOn
  repeat (first | rw [gK_g hG (by decide) (by decide)] | rw [gI_g hG (by decide) (by decide)] | rw [gR_g hG (by decide) (by decide) (by rfl)] | rw [bS])
  by_cases c : x = -1
  · rw [if_pos c, if_pos c, end_eq hG isW_lat, bS, W.2.2.1]
  · rw [if_neg c, if_neg c]
    rcases idx_cases x (zT z).1.length (by omega) with ⟨j, hj, rfl, ij⟩ | ⟨-, ij, c⟩
    · rw [ij, stop_y hG isW_lat W hT hj, bS]
    · rw [ij, stop_n hG isW_lat W c, bS]
theorem x_plan (hz : OkZ z) (C : CX h z) (x : Int32) : f_X9_plan h 0 x = some (opPlan z x) := by
  obtain ⟨hG, -, -, -, P, -, -⟩ := C
  have hl := P.2.1
  unfold f_X9_plan opPlan
  repeat (first | rw [gK_g hG (by decide) (by decide)] | rw [gI_g hG (by decide) (by decide)] | rw [gR_g hG (by decide) (by decide) (by rfl)] | rw [bS])
  rcases idx_cases x (zP z).length (by omega) with ⟨j, hj, rfl, ij⟩ | ⟨-, ij, c⟩
  · rw [ij, hasP_y hG P hj, bS, if_neg (by decide), getP_y hG P hj, bS]
  · rw [ij, hasP_n hG P c, bS, if_pos rfl]
theorem x_run (hz : OkZ z) (C : CX h z) (x : Int32) : f_X9_run h 0 x = some (opRun z x) := by
  obtain ⟨hG, -, -, -, -, -, R⟩ := C
  unfold f_X9_run f_X6_tell opRun
  repeat (first | rw [gK_g hG (by decide) (by decide)] | rw [gI_g hG (by decide) (by decide)] | rw [gR_g hG (by decide) (by decide) (by rfl)] | rw [bS])
  cases hr : zR2 z with
  | none =>
    rw [hr] at R
    have R : mm_I h 106 4 = 0 := R
    rw [R, if_pos rfl, bS]
  | some q =>
    obtain ⟨at_, ch, ps, br⟩ := q
    rw [hr] at R
    obtain ⟨r1, r2, r3, r4, r5, r6, -⟩ := R
    rw [r1, r2, r3, r4, r5, r6, if_neg (by decide)]
    show _ = some (if x = 0 then nI at_ else if x = 1 then nI ch else if x = 2 then nI ps.length else if x = 3 then nI (undS ps) else if x = 4 then nI br else -1)
    repeat (first | split | rfl)
theorem x_begin (hz : OkZ z) (C : CX h z) : ∃ h', f_X9_begin h 0 = some ((opBegin z).1, h') ∧ CX h' (opBegin z).2 ∧ CF h h' := by
  have C0 := C
  obtain ⟨hG, J, -, -, P, W, -⟩ := C
  have hl := P.2.1
  unfold f_X9_begin opBegin
  repeat (first | rw [gK_g hG (by decide) (by decide)] | rw [gI_g hG (by decide) (by decide)] | rw [gR_g hG (by decide) (by decide) (by rfl)] | rw [bS])
  rw [sizeP_eq hG P, bS, it_eq1 (by omega) (by decide)]
  by_cases c : (zP z).length = 0
  · rw [if_pos c, if_pos c]
    exact ⟨h, rfl, C0, CF.rf⟩
  · rw [if_neg c, if_neg c]
    have o : Only h (mm_si (mm_si (mm_si (mm_si (mm_si (mm_si h 106 4 1) 106 5 0) 106 6 0) 106 7 0) 106 8 0) 106 9 0) (fun a => a = 106) := (((((Only.si (P := fun a => a = 106) rfl).tr (Only.si rfl)).tr (Only.si rfl)).tr (Only.si rfl)).tr (Only.si rfl)).tr (Only.si rfl)
    refine ⟨mm_si (mm_si (mm_si (mm_si (mm_si (mm_si h 106 4 1) 106 5 0) 106 6 0) 106 7 0) 106 8 0) 106 9 0, ?_, CX.mk2 C0 o (fun a q => by omega) (JK.only o (fun a q => by omega) J) (P.only o (by decide) (by decide)) (W.only o (by decide) (by decide)) ?_, CF.of o (fun a q => by omega)⟩
    · unfold f_X6_start
      rw [gK_g hG (by decide) (by decide), pZ_g hG (by decide) (by decide) (Or.inr rfl), bS, pI_g hG.si (by decide) (by decide), bS, pI_g hG.si.si (by decide) (by decide), bS, pI_g hG.si.si.si (by decide) (by decide), bS, pI_g hG.si.si.si.si (by decide) (by decide), bS, pI_g hG.si.si.si.si.si (by decide) (by decide), bS, bS]
    · refine ⟨?_, ?_, ?_, ?_, ?_, ?_, fun k p hk => by simp at hk⟩
      · rw [si_o2 (by decide), si_o2 (by decide), si_o2 (by decide), si_o2 (by decide), si_o2 (by decide), si_s]
      · rw [si_o2 (by decide), si_o2 (by decide), si_o2 (by decide), si_o2 (by decide), si_s]; rfl
      · rw [si_o2 (by decide), si_o2 (by decide), si_o2 (by decide), si_s]; rfl
      · rw [si_o2 (by decide), si_o2 (by decide), si_s]; rfl
      · rw [si_o2 (by decide), si_s]; rfl
      · rw [si_s]; rfl
theorem x_empty (hz : OkZ z) (C : CX h z) : ∃ h', f_X9_empty h 0 = some h' ∧ CX h' (opEmpty z) ∧ CF h h' := by
  have C0 := C
  obtain ⟨hG, J, -, -, P, W, -⟩ := C
  obtain ⟨h1, e1, o1, P1⟩ := clearP_eq hG
  have G1 := o1.Gr hG
  have o2 : Only h1 (mm_si h1 106 4 0) (fun a => a = 101 ∨ a = 102 ∨ a = 106) := Only.si (by omega)
  have o : Only h (mm_si h1 106 4 0) (fun a => a = 101 ∨ a = 102 ∨ a = 106) := (o1.mono (fun a q => by unfold PlS at q; omega)).tr o2
  refine ⟨mm_si h1 106 4 0, ?_, CX.mk2 C0 o (fun a q => by omega) (JK.only o (fun a q => by omega) J) ⟨by rw [si_o (by decide)]; exact P1.1, P1.2.1, fun i s hi => by rw [si_o (by decide)]; exact P1.2.2 i s hi⟩ (W.only o (by decide) (by decide)) (show mm_I _ 106 4 = 0 by rw [si_s]), CF.of o (fun a q => by omega)⟩
  unfold f_X9_empty
  repeat (first | rw [gK_g hG (by decide) (by decide)] | rw [gI_g hG (by decide) (by decide)] | rw [gR_g hG (by decide) (by decide) (by rfl)] | rw [bS])
  rw [e1, bS]
  repeat (first | rw [gK_g G1 (by decide) (by decide)] | rw [gI_g G1 (by decide) (by decide)] | rw [gR_g G1 (by decide) (by decide) (by rfl)] | rw [bS])
  rw [stopF_eq G1, bS]
theorem x_least (hz : OkZ z) (C : CX h z) : ∃ h', f_X9_least h 0 = some ((opLeast z).1, h') ∧ CX h' (opLeast z).2 ∧ CF h h' := by
  have C0 := C
  obtain ⟨hG, J, -, -, P, W, -⟩ := C
  have hA := hz.1
  obtain ⟨h1, e1, o1, J1, P1⟩ := makeLeast_eq hG hA J P
  have G1 := o1.Gr hG
  unfold f_X9_least opLeast
  repeat (first | rw [gK_g hG (by decide) (by decide)] | rw [gI_g hG (by decide) (by decide)] | rw [gR_g hG (by decide) (by decide) (by rfl)] | rw [bS])
  rw [e1, bS]
  by_cases c : TS (zA z) 0 < 99
  · rw [if_pos c] at P1
    rw [if_pos c, if_pos c]
    have o2 : Only h1 (mm_si h1 106 4 0) (fun a => (PnS a ∨ PlS a) ∨ a = 106) := Only.si (Or.inr rfl)
    have o : Only h (mm_si h1 106 4 0) (fun a => (PnS a ∨ PlS a) ∨ a = 106) := (o1.mono (fun a q => Or.inl q)).tr o2
    have P2 : PlanIs (mm_si h1 106 4 0) (leastS (zA z)) := P1.only (P := fun a => a = 106) (Only.si rfl) (by decide) (by decide)
    refine ⟨mm_si h1 106 4 0, ?_, CX.mk2 C0 o (fun a q => by unfold PnS PlS Scr at q; omega) (JK.only (P := fun a => a = 106) (Only.si rfl) (fun a q => by omega) J1) P2 (W.only o (by unfold PnS PlS Scr; omega) (by unfold PnS PlS Scr; omega)) (show mm_I _ 106 4 = 0 by rw [si_s]), CF.of o (fun a q => by unfold PnS PlS Scr at q; omega)⟩
    rw [if_neg (show ¬ (1 : Int32) = 0 by decide)]
    repeat (first | rw [gK_g G1 (by decide) (by decide)] | rw [gI_g G1 (by decide) (by decide)] | rw [gR_g G1 (by decide) (by decide) (by rfl)] | rw [bS])
    rw [stopF_eq G1, bS]
    repeat (first | rw [gK_g G1.si (by decide) (by decide)] | rw [gI_g G1.si (by decide) (by decide)] | rw [gR_g G1.si (by decide) (by decide) (by rfl)] | rw [bS])
    rw [sizeP_eq G1.si P2, bS]
  · rw [if_neg c] at P1
    rw [if_neg c, if_neg c, if_pos rfl]
    exact ⟨h1, rfl, CX.mk2 C0 o1 (fun a q => by unfold PnS PlS Scr at q; omega) J1 P1 (W.only o1 (by unfold PnS PlS Scr; omega) (by unfold PnS PlS Scr; omega)) (RunIs.only hz.2.2.2.2.2 o1 (by unfold PnS PlS Scr; omega) (fun a h1 h2 => by unfold PnS PlS Scr; omega) C0.2.2.2.2.2.2), CF.of o1 (fun a q => by unfold PnS PlS Scr at q; omega)⟩
theorem pns_jf (a : Nat) (q : PnS a) : JF a := by unfold PnS Scr at q; unfold JF; omega
theorem pns_lt (a : Nat) (q : PnS a) : a < 230 := by unfold PnS Scr at q; omega
theorem x_orders (hz : OkZ z) (C : CX h z) : ∃ h', f_X9_orders h 0 = some (opOrders z, h') ∧ CX h' z ∧ CF h h' := by
  obtain ⟨h1, e1, o1, J1⟩ := countOrders_eq C.1 hz.1 C.2.1
  refine ⟨h1, ?_, CX.keep hz C o1 pns_jf J1, CF.of o1 pns_lt⟩
  have hG := C.1
  unfold f_X9_orders opOrders
  repeat (first | rw [gK_g hG (by decide) (by decide)] | rw [gI_g hG (by decide) (by decide)] | rw [gR_g hG (by decide) (by decide) (by rfl)] | rw [bS])
  rw [e1, bS]
theorem x_order (hz : OkZ z) (C : CX h z) (x : Int32) : ∃ h', f_X9_order h 0 x = some ((opOrder z x).1, h') ∧ CX h' (opOrder z x).2 ∧ CF h h' := by
  have C0 := C
  obtain ⟨hG, J, -, -, P, W, -⟩ := C
  have hA := hz.1
  have hos := OS_lt hA (show 0 < 128 by decide)
  obtain ⟨h1, o1, J1, q⟩ := makeOrder_eq hG hA J P x
  have G1 := o1.Gr hG
  unfold f_X9_order opOrder
  repeat (first | rw [gK_g hG (by decide) (by decide)] | rw [gI_g hG (by decide) (by decide)] | rw [gR_g hG (by decide) (by decide) (by rfl)] | rw [bS])
  rcases q with ⟨k, hk, rfl, e1, P1⟩ | ⟨hno, e1, P1⟩
  · rw [e1, bS, if_neg (show ¬ (1 : Int32) = 0 by decide), idx_nI hk (by omega)]
    have o2 : Only h1 (mm_si h1 106 4 0) (fun a => (PnS a ∨ PlS a) ∨ a = 106) := Only.si (Or.inr rfl)
    have o : Only h (mm_si h1 106 4 0) (fun a => (PnS a ∨ PlS a) ∨ a = 106) := (o1.mono (fun a q => Or.inl q)).tr o2
    have P2 : PlanIs (mm_si h1 106 4 0) (ordS (zA z) 7 0 k) := P1.only (P := fun a => a = 106) (Only.si rfl) (by decide) (by decide)
    refine ⟨mm_si h1 106 4 0, ?_, CX.mk2 C0 o (fun a q => by unfold PnS PlS Scr at q; omega) (JK.only (P := fun a => a = 106) (Only.si rfl) (fun a q => by omega) J1) P2 (W.only o (by unfold PnS PlS Scr; omega) (by unfold PnS PlS Scr; omega)) (show mm_I _ 106 4 = 0 by rw [si_s]), CF.of o (fun a q => by unfold PnS PlS Scr at q; omega)⟩
    repeat (first | rw [gK_g G1 (by decide) (by decide)] | rw [gI_g G1 (by decide) (by decide)] | rw [gR_g G1 (by decide) (by decide) (by rfl)] | rw [bS])
    rw [stopF_eq G1, bS]
  · rw [e1, bS, if_pos rfl, idx_no (by omega) hno]
    exact ⟨h1, rfl, CX.mk2 C0 o1 (fun a q => by unfold PnS PlS Scr at q; omega) J1 P1 (W.only o1 (by unfold PnS PlS Scr; omega) (by unfold PnS PlS Scr; omega)) (RunIs.only hz.2.2.2.2.2 o1 (by unfold PnS PlS Scr; omega) (fun a h1 h2 => by unfold PnS PlS Scr; omega) C0.2.2.2.2.2.2), CF.of o1 (fun a q => by unfold PnS PlS Scr at q; omega)⟩
theorem x_holds (hz : OkZ z) (C : CX h z) (x y : Int32) : ∃ h', f_X9_holds h 0 x y = some (opHolds z x y, h') ∧ CX h' z ∧ CF h h' := by
  have hG := C.1
  have R := C.2.1.1
  have hA := hz.1
  have h10 := hA.2.2.2.2.2.2.1
  have hp := all_pow hA
  unfold f_X9_holds opHolds
  repeat (first | rw [gK_g hG (by decide) (by decide)] | rw [gI_g hG (by decide) (by decide)] | rw [gR_g hG (by decide) (by decide) (by rfl)] | rw [bS])
  rcases idx_cases x (sw (zA z)) (by omega) with ⟨i, hi, rfl, ij⟩ | ⟨-, ij, c⟩
  · rw [ij, hasW_y hG hA R hi, bS, if_neg (by decide)]
    repeat (first | rw [gK_g hG (by decide) (by decide)] | rw [gI_g hG (by decide) (by decide)] | rw [gR_g hG (by decide) (by decide) (by rfl)] | rw [bS])
    rcases idx_cases y (2 ^ sn (zA z)) (by omega) with ⟨m, hm, rfl, im⟩ | ⟨-, im, c⟩
    · obtain ⟨h1, e1, o1⟩ := leastBad_eq hG hA R (mix := m) (by omega) hi
      rw [im, hasMix_y hG hA R hm, bS, if_neg (by decide)]
      repeat (first | rw [gK_g hG (by decide) (by decide)] | rw [gI_g hG (by decide) (by decide)] | rw [gR_g hG (by decide) (by decide) (by rfl)] | rw [bS])
      rw [e1, bS]
      refine ⟨h1, ?_, CX.keep hz C o1 (fun a q => by unfold Scr at q; unfold JF; omega) ⟨RX.only o1 scr_lt R, ?_, ?_⟩, CF.of o1 (fun a q => by unfold Scr at q; omega)⟩
      · by_cases cb : badS (zA z) i m = 16
        · rw [if_pos ((bI_m1 (badS_le _ i m)).mpr cb)]; show _ = some ((if badS (zA z) i m = 16 then 1 else 0 : Int32), h1); rw [if_pos cb]
        · rw [if_neg (fun q => cb ((bI_m1 (badS_le _ i m)).mp q))]; show _ = some ((if badS (zA z) i m = 16 then 1 else 0 : Int32), h1); rw [if_neg cb]
      · have K := C.2.1.2.1; unfold Kp at K ⊢; rw [o1.2.2.2.2.2 90 (by unfold Scr; omega), o1.2.2.2.2.2 92 (by unfold Scr; omega)]; exact K
      · have D := C.2.1.2.2; unfold Gd at D ⊢; rw [o1.2.2.2.2.2 90 (by unfold Scr; omega), o1.2.2.2.2.2 93 (by unfold Scr; omega)]; exact D
    · rw [im, hasMix_n hG hA R c, bS, if_pos rfl]
      exact ⟨h, rfl, C, CF.rf⟩
  · rw [ij, hasW_n hG R c, bS, if_pos rfl]
    exact ⟨h, rfl, C, CF.rf⟩
end

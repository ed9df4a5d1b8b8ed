/-! ===== the class's calls that change the scene ===== -/
theorem fin {h h1 : MH} {z : ZS} {A : SA} {P : Nat → Prop} (C : CX h z) (o : Only h h1 P) (hp : ∀ a, P a → a < 92) (R : RX h1 A) (hl : mm_I h1 1 8 = nI (lkS A / 2)) :
    ∃ h', f_X9_startAfresh h1 0 = some h' ∧ CX h' (freshZ z A) ∧ CF h h' ∧ Gr h' ∧ RX h' A := by
  obtain ⟨h2, e2, C2, n2, s2, f2⟩ := startAfresh_eq (z := z) (o.Gr C.1) R hl (C.2.2.2.2.2.1.only o (fun q => by have := hp _ q; omega) (fun q => by have := hp _ q; omega))
  refine ⟨h2, e2, C2, ⟨by rw [n2, o.2.2.2.1]; omega, by rw [s2, o.2.2.2.2.1]; omega, fun a h1 h2 => ?_⟩, C2.1, C2.2.1.1⟩
  rw [f2 a (by unfold FrS; omega), o.2.2.2.2.2 a (fun q => by have := hp _ q; omega)]
def rowA (A : SA) (r c : Nat) (d : Nat → Nat → Nat) : SA := (sn A, sh A, sp A, sq A, va_up (sc A) r c, va_up (sd A) r d, sw A, sx A)
theorem RX.row {h h1 : MH} {A : SA} {r c : Nat} {d : Nat → Nat → Nat} (hr : r < 14) (R : RX h A) (o : Only h h1 (InRow r)) (F : RowF h1 r c d) : RX h1 (rowA A r c d) := by
  obtain ⟨o1, o2, o3, o4, o5, o6⟩ := o
  obtain ⟨⟨n1, n2, n3, n4⟩, rr, w1, w2⟩ := R
  refine ⟨⟨by rw [o6 1 (by unfold InRow; omega)]; exact n1, by rw [o6 1 (by unfold InRow; omega)]; exact n2, fun k hk => by rw [o6 2 (by unfold InRow; omega)]; exact n3 k hk, fun i hi => by rw [o6 3 (by unfold InRow; omega)]; exact n4 i hi⟩, fun q hq => ?_, by rw [o6 90 (by unfold InRow; omega)]; exact w1, fun i hi => ?_⟩
  · by_cases e : q = r
    · subst e
      have ec : sc (rowA A q c d) q = c := va_up_self _ _ _
      have ed : sd (rowA A q c d) q = d := va_up_self _ _ _
      refine ⟨by rw [ec]; exact F.1.1, fun i hi j hj => by rw [ed]; exact F.1.2 i (by rw [ec] at hi; exact hi) j hj, fun m hm => ?_⟩
      unfold actS
      rw [ec, ed]; exact F.2 m hm
    · obtain ⟨r1, r2, r3⟩ := rr q hq
      have ec : sc (rowA A r c d) q = sc A q := va_up_ne _ _ e
      have ed : sd (rowA A r c d) q = sd A q := va_up_ne _ _ e
      have nr : ∀ a, 6 + 6 * q ≤ a → a < 12 + 6 * q → ¬ InRow r a := fun a h1 h2 => by unfold InRow; omega
      refine ⟨by rw [ec, o6 _ (nr _ (by omega) (by omega))]; exact r1, fun i hi j hj => by rw [ed, o6 _ (nr _ (by omega) (by omega))]; exact r2 i (by rw [ec] at hi; exact hi) j hj, fun m hm => ?_⟩
      unfold actS
      rw [ec, ed, o6 _ (nr _ (by omega) (by omega))]; exact r3 m hm
  · obtain ⟨o, p1, p2, p3, p4, p5⟩ := w2 i hi
    exact ⟨o, by rw [o3]; exact p1, by rw [o4]; exact p2, by rw [o1]; exact p3, fun j hj => by rw [o6 o (by unfold InRow; omega)]; exact p4 j hj, p5⟩
theorem RX.rowD {h : MH} {A : SA} {r : Nat} (hr : r < 14) (R : RX h A) : RowD h r (sc A r) (sd A r) := ⟨(R.2.1 r hr).1, (R.2.1 r hr).2.1⟩
theorem OkA.okD {A : SA} {r : Nat} (hA : OkA A) (hr : r < 14) : OkD (sc A r) (sd A r) := hA.2.2.2.2.2.1 r hr
section
variable {h : MH} {z : ZS}
theorem rowOf_y {A : SA} (hG : Gr h) (hA : OkA A) (R : RX h A) {b s : Nat} (hb : b < 2) (hs : s < sn A) : f_X1_rowOf h 1 (nI b) (nI s) = some (some (6 + 6 * (7 * b + s))) := by
  have h7 := hA.2.1
  have ej : f_X1_rowOf_j9 h 1 (nI b) (nI s) = some (some (6 + 6 * (7 * b + s))) := by
    unfold f_X1_rowOf_j9
    rw [hasSw_y hG hA R hs, bS, if_neg (by decide)]
    repeat (first | rw [gK_g hG (by decide) (by decide)] | rw [gI_g hG (by decide) (by decide)] | rw [gR_g hG (by decide) (by decide) (by rfl)] | rw [bS])
    rw [cl_mul, nI_add, show b * 7 + s = 7 * b + s by omega, aR_g hG (by decide) (by decide) (show 7 * b + s < 14 by omega) (hG.2.2.2 4 _ _ (by decide) (gr_rows (by omega))), bS]
  unfold f_X1_rowOf
  rw [gK_g hG (by decide) (by decide), ej]
  rcases (show b = 0 ∨ b = 1 by omega) with rfl | rfl
  · exact if_pos (show nI 0 = (0 : Int32) from rfl)
  · rw [if_neg (show ¬ nI 1 = (0 : Int32) by decide)]; exact if_pos (show nI 1 = (1 : Int32) from rfl)
theorem rowOf_nb {A : SA} (hG : Gr h) {x y : Int32} (hno : ∀ j, j < 2 → x ≠ nI j) : f_X1_rowOf h 1 x y = some none := by
  unfold f_X1_rowOf
  rw [gK_g hG (by decide) (by decide), if_neg (show ¬ x = 0 from hno 0 (by decide)), if_neg (show ¬ x = 1 from hno 1 (by decide))]
theorem rowOf_ns {A : SA} (hG : Gr h) (R : RX h A) {b : Nat} {y : Int32} (hb : b < 2) (c : y < 0 ∨ nI (sn A) ≤ y) : f_X1_rowOf h 1 (nI b) y = some none := by
  have ej : f_X1_rowOf_j9 h 1 (nI b) y = some none := by
    unfold f_X1_rowOf_j9
    rw [hasSw_n hG R c, bS, if_pos rfl]
  unfold f_X1_rowOf
  rw [gK_g hG (by decide) (by decide), ej]
  rcases (show b = 0 ∨ b = 1 by omega) with rfl | rfl
  · exact if_pos (show nI 0 = (0 : Int32) from rfl)
  · rw [if_neg (show ¬ nI 1 = (0 : Int32) by decide)]; exact if_pos (show nI 1 = (1 : Int32) from rfl)
theorem x_rule (hz : OkZ z) (C : CX h z) (x1 x2 x3 x4 x5 x6 : Int32) : ∃ h', f_X9_rule h 0 x1 x2 x3 x4 x5 x6 = some ((opRule z x1 x2 x3 x4 x5 x6).1, h') ∧ CX h' (opRule z x1 x2 x3 x4 x5 x6).2 ∧ CF h h' := by
  have C0 := C
  obtain ⟨hG, J, L, N, P, W, RR⟩ := C
  have R := J.1
  have hA := hz.1
  have h7 := hA.2.1
  have no : ∀ {a : Option (Int32 × MH)}, opRule z x1 x2 x3 x4 x5 x6 = (-1, z) → a = some (-1, h) → ∃ h', a = some ((opRule z x1 x2 x3 x4 x5 x6).1, h') ∧ CX h' (opRule z x1 x2 x3 x4 x5 x6).2 ∧ CF h h' := fun e ea => by
    rw [e]; exact ⟨h, ea, C0, CF.rf⟩
  unfold f_X9_rule
  repeat (first | rw [gK_g hG (by decide) (by decide)] | rw [gI_g hG (by decide) (by decide)] | rw [gR_g hG (by decide) (by decide) (by rfl)] | rw [bS])
  rcases idx_cases x1 2 (by decide) with ⟨b, hb, rfl, i1⟩ | ⟨hno, i1, -⟩
  · rcases idx_cases x2 (sn (zA z)) (by omega) with ⟨s, hs, rfl, i2⟩ | ⟨-, i2, c⟩
    · have hr : 7 * b + s < 14 := by omega
      have ok := hA.okD hr
      rw [rowOf_y hG hA R hb hs, bS]
      dsimp only
      rw [sizeR_eq hG hr (R.rowD hr), bS, it_le2 (by have := ok.1; omega) (by decide)]
      by_cases c6 : sc (zA z) (7 * b + s) = 6
      · refine no ?_ (by rw [if_pos (by omega)])
        unfold opRule
        rw [i1, i2]
        cases idx x3 16 with
        | none => rfl
        | some v => cases idx x4 16 with
          | none => rfl
          | some v => cases idx x5 10 with
            | none => rfl
            | some v => cases idx x6 5 with
              | none => rfl
              | some v => exact if_pos c6
      · have o6 := ok.1
        rw [if_neg (by omega)]
        rcases idx_cases x3 16 (by decide) with ⟨v, hv, rfl, i3⟩ | ⟨-, i3, c⟩
        · rcases idx_cases x4 16 (by decide) with ⟨w, hw, rfl, i4⟩ | ⟨-, i4, c⟩
          · rw [isSpan_y hv hw, bS, if_neg (by decide)]
            rcases idx_cases x5 10 (by decide) with ⟨rk, hrk, rfl, i5⟩ | ⟨-, i5, c⟩
            · rw [it_neg (by omega), it_le2 (by omega) (by decide), if_neg (by omega)]
              rcases idx_cases x6 5 (by decide) with ⟨ac, hac, rfl, i6⟩ | ⟨-, i6, c⟩
              · rw [it_neg (by omega), it_le1 (by omega) (by decide), if_pos (by omega)]
                have e : opRule z (nI b) (nI s) (nI v) (nI w) (nI rk) (nI ac) = (nI (sc (zA z) (7 * b + s) + 1), freshZ z (ruleA (zA z) (7 * b + s) (four v w rk ac))) := by
                  unfold opRule
                  rw [i1, i2, i3, i4, i5, i6]
                  exact if_neg c6
                have okd : OkD (sc (zA z) (7 * b + s) + 1) (addD (sd (zA z) (7 * b + s)) (sc (zA z) (7 * b + s)) (four v w rk ac)) := by
                  refine ⟨by omega, fun i hi => ?_⟩
                  unfold addD
                  by_cases ei : i = sc (zA z) (7 * b + s)
                  · simp only [if_pos ei, four]; omega
                  · simp only [if_neg ei]; exact ok.2 i (by omega)
                obtain ⟨h1, e1, o1, F1⟩ := addR_eq (x := four v w rk ac) hG hr (R.rowD hr) (by omega) okd
                have e1 : f_X5_add h (6 + 6 * (7 * b + s)) (nI v) (nI w) (nI rk) (nI ac) = some h1 := e1
                obtain ⟨h2, e2, C2, F2, G2, R2⟩ := fin C0 o1 (fun a q => by unfold InRow at q; omega) (R.row hr o1 F1) (by rw [o1.2.2.2.2.2 1 (by unfold InRow; omega)]; exact N)
                rw [e]
                refine ⟨h2, ?_, C2, F2⟩
                have rd := R2.rowD hr
                rw [show sc (rowA (zA z) (7 * b + s) (sc (zA z) (7 * b + s) + 1) (addD (sd (zA z) (7 * b + s)) (sc (zA z) (7 * b + s)) (four v w rk ac))) (7 * b + s) = sc (zA z) (7 * b + s) + 1 from va_up_self _ _ _] at rd
                rw [e1, bS, e2, bS, sizeR_eq G2 hr rd, bS]
              · refine no (by unfold opRule; rw [i1, i2, i3, i4, i5, i6]) ?_
                by_cases c0 : x6 < 0
                · rw [if_pos c0]
                · have c1 := c.resolve_left c0
                  rw [if_neg c0, if_neg (fun q => ?_)]
                  have q : x6 ≤ nI 4 := q
                  rw [Int32.le_iff_toInt_le, nI_toInt (by decide)] at q c1
                  omega
            · refine no (by unfold opRule; rw [i1, i2, i3, i4, i5]) ?_
              by_cases c0 : x5 < 0
              · rw [if_pos c0]
              · rw [if_neg c0, if_pos (show (10 : Int32) ≤ x5 from c.resolve_left c0)]
          · exact no (by unfold opRule; rw [i1, i2, i3, i4]) (by rw [isSpan_n2 hv c, bS, if_pos rfl])
        · exact no (by unfold opRule; rw [i1, i2, i3]) (by rw [isSpan_n1 c, bS, if_pos rfl])
    · exact no (by unfold opRule; rw [i1, i2]) (by rw [rowOf_ns hG R hb c, bS])
  · exact no (by unfold opRule; rw [i1]) (by rw [rowOf_nb (A := zA z) hG hno, bS])
theorem x_strike (hz : OkZ z) (C : CX h z) (x1 x2 x3 : Int32) : ∃ h', f_X9_strike h 0 x1 x2 x3 = some ((opStrike z x1 x2 x3).1, h') ∧ CX h' (opStrike z x1 x2 x3).2 ∧ CF h h' := by
  have C0 := C
  obtain ⟨hG, J, L, N, P, W, RR⟩ := C
  have R := J.1
  have hA := hz.1
  have h7 := hA.2.1
  have no : ∀ {a : Option (Int32 × MH)}, opStrike z x1 x2 x3 = (-1, z) → a = some (-1, h) → ∃ h', a = some ((opStrike z x1 x2 x3).1, h') ∧ CX h' (opStrike z x1 x2 x3).2 ∧ CF h h' := fun e ea => by
    rw [e]; exact ⟨h, ea, C0, CF.rf⟩
  unfold f_X9_strike
  repeat (first | rw [gK_g hG (by decide) (by decide)] | rw [gI_g hG (by decide) (by decide)] | rw [gR_g hG (by decide) (by decide) (by rfl)] | rw [bS])
  rcases idx_cases x1 2 (by decide) with ⟨b, hb, rfl, i1⟩ | ⟨hno, i1, -⟩
  · rcases idx_cases x2 (sn (zA z)) (by omega) with ⟨s, hs, rfl, i2⟩ | ⟨-, i2, c⟩
    · have hr : 7 * b + s < 14 := by omega
      have ok := hA.okD hr
      have o6 := ok.1
      rw [rowOf_y hG hA R hb hs, bS]
      dsimp only
      rw [sizeR_eq hG hr (R.rowD hr), bS]
      rcases idx_cases x3 (sc (zA z) (7 * b + s)) (by omega) with ⟨i, hi, rfl, i3⟩ | ⟨-, i3, c⟩
      · have e : opStrike z (nI b) (nI s) (nI i) = (nI (sc (zA z) (7 * b + s) - 1), freshZ z (strikeA (zA z) (7 * b + s) i)) := by
          unfold opStrike
          rw [i1, i2]
          dsimp only
          rw [i3]
        obtain ⟨h1, e1, o1, F1⟩ := removeR_eq hG hr (R.rowD hr) ok hi
        obtain ⟨h2, e2, C2, F2, G2, R2⟩ := fin C0 o1 (fun a q => by unfold InRow at q; omega) (R.row hr o1 F1) (by rw [o1.2.2.2.2.2 1 (by unfold InRow; omega)]; exact N)
        rw [e, it_neg (by omega), in_lt (by omega) (by omega), if_pos hi]
        refine ⟨h2, ?_, C2, F2⟩
        have rd := R2.rowD hr
        rw [show sc (rowA (zA z) (7 * b + s) (sc (zA z) (7 * b + s) - 1) (cutD (sd (zA z) (7 * b + s)) i)) (7 * b + s) = sc (zA z) (7 * b + s) - 1 from va_up_self _ _ _] at rd
        rw [e1, bS, e2, bS, sizeR_eq G2 hr rd, bS]
      · refine no (by unfold opStrike; rw [i1, i2]; dsimp only; rw [i3]) ?_
        by_cases c0 : x3 < 0
        · rw [if_pos c0]
        · have c1 := c.resolve_left c0
          rw [if_neg c0, if_neg (fun q => ?_)]
          rw [Int32.lt_iff_toInt_lt] at q
          rw [Int32.le_iff_toInt_le] at c1
          omega
    · exact no (by unfold opStrike; rw [i1, i2]) (by rw [rowOf_ns hG R hb c, bS])
  · exact no (by unfold opStrike; rw [i1]) (by rw [rowOf_nb (A := zA z) hG hno, bS])
theorem x_copy (hz : OkZ z) (C : CX h z) (x1 x2 : Int32) : ∃ h', f_X9_copy h 0 x1 x2 = some ((opCopy z x1 x2).1, h') ∧ CX h' (opCopy z x1 x2).2 ∧ CF h h' := by
  have C0 := C
  obtain ⟨hG, J, L, N, P, W, RR⟩ := C
  have R := J.1
  have hA := hz.1
  have h7 := hA.2.1
  unfold f_X9_copy opCopy
  repeat (first | rw [gK_g hG (by decide) (by decide)] | rw [gI_g hG (by decide) (by decide)] | rw [gR_g hG (by decide) (by decide) (by rfl)] | rw [bS])
  rcases idx_cases x1 (sn (zA z)) (by omega) with ⟨s, hs, rfl, i1⟩ | ⟨-, i1, c⟩
  · have y0 : f_X1_rowOf h 1 (0 : Int32) (nI s) = _ := rowOf_y hG hA R (show 0 < 2 by decide) hs
    have y1 : f_X1_rowOf h 1 (1 : Int32) (nI s) = _ := rowOf_y hG hA R (show 1 < 2 by decide) hs
    have h0 : 7 * 0 + s < 14 := by omega
    have h1' : 7 * 1 + s < 14 := by omega
    rw [y0, bS]
    dsimp only
    repeat (first | rw [gK_g hG (by decide) (by decide)] | rw [gI_g hG (by decide) (by decide)] | rw [gR_g hG (by decide) (by decide) (by rfl)] | rw [bS])
    rw [y1, bS]
    dsimp only
    rw [i1]
    dsimp only
    by_cases c2 : x2 = 0
    · rw [if_pos c2, if_pos c2]
      obtain ⟨h1, e1, o1, F1⟩ := becomeR_eq hG h0 h1' (by omega) (R.rowD h1') (hA.okD h1')
      obtain ⟨h2, e2, C2, F2, G2, R2⟩ := fin C0 o1 (fun a q => by unfold InRow at q; omega) (R.row h0 o1 F1) (by rw [o1.2.2.2.2.2 1 (by unfold InRow; omega)]; exact N)
      have rd := R2.rowD h0
      rw [show sc (rowA (zA z) (7 * 0 + s) (sc (zA z) (7 * 1 + s)) (sd (zA z) (7 * 1 + s))) (7 * 0 + s) = sc (zA z) (7 * 1 + s) from va_up_self _ _ _] at rd
      refine ⟨h2, ?_, ?_, F2⟩
      · rw [e1, bS]
        unfold f_X9_copy_j51
        rw [e2, bS, sizeR_eq G2 h0 rd, bS]
      · rw [show 7 * 0 + s = s by omega] at C2; exact C2
    · rw [if_neg c2, if_neg c2]
      obtain ⟨h1, e1, o1, F1⟩ := becomeR_eq hG h1' h0 (by omega) (R.rowD h0) (hA.okD h0)
      obtain ⟨h2, e2, C2, F2, G2, R2⟩ := fin C0 o1 (fun a q => by unfold InRow at q; omega) (R.row h1' o1 F1) (by rw [o1.2.2.2.2.2 1 (by unfold InRow; omega)]; exact N)
      have rd := R2.rowD h0
      rw [show sc (rowA (zA z) (7 * 1 + s) (sc (zA z) (7 * 0 + s)) (sd (zA z) (7 * 0 + s))) (7 * 0 + s) = sc (zA z) (7 * 0 + s) from va_up_ne _ _ (by omega)] at rd
      refine ⟨h2, ?_, ?_, F2⟩
      · rw [e1, bS]
        unfold f_X9_copy_j51
        rw [e2, bS, sizeR_eq G2 h0 rd, bS, show 7 * 0 + s = s by omega]
      · rw [show 7 * 0 + s = s by omega] at C2; exact C2
  · have n0 : f_X1_rowOf h 1 (0 : Int32) x1 = _ := rowOf_ns hG R (show 0 < 2 by decide) c
    have n1 : f_X1_rowOf h 1 (1 : Int32) x1 = _ := rowOf_ns hG R (show 1 < 2 by decide) c
    rw [i1, n0, bS]
    dsimp only
    repeat (first | rw [gK_g hG (by decide) (by decide)] | rw [gI_g hG (by decide) (by decide)] | rw [gR_g hG (by decide) (by decide) (by rfl)] | rw [bS])
    rw [n1, bS]
    exact ⟨h, rfl, C0, CF.rf⟩
end

/-! ===== the reference's calls: rules and wants ===== -/
section
variable {h : MH} {z : ZS} {A : SA}
theorem mSpan_y {v b : Nat} (hG : Gr h) (hv : v < 16) (hb : b < 16) : f_X10_isSpan h 230 (nI v) (nI b) = some 1 := by
  unfold f_X10_isSpan
  rw [r_K hG, isInL_y (show v ≤ 15 by omega) (by decide), bS, if_neg (by decide), isInL_y (show b ≤ 15 by omega) (by decide), bS, if_neg (by decide)]
theorem mSpan_n1 {x y : Int32} (hG : Gr h) (c : x < 0 ∨ nI 16 ≤ x) : f_X10_isSpan h 230 x y = some 0 := by
  unfold f_X10_isSpan
  rw [r_K hG, isInL_n (by decide) c, bS, if_pos rfl]
theorem mSpan_n2 {v : Nat} {y : Int32} (hG : Gr h) (hv : v < 16) (c : y < 0 ∨ nI 16 ≤ y) : f_X10_isSpan h 230 (nI v) y = some 0 := by
  unfold f_X10_isSpan
  rw [r_K hG, isInL_y (show v ≤ 15 by omega) (by decide), bS, if_neg (by decide), isInL_n (by decide) c, bS, if_pos rfl]
/-- a row's rules are written anew -/
theorem MS.row {h' : MH} {r c : Nat} {d : Nat → Nat → Nat} (M : MS h A) (hA : OkA A) (hr : r < 14) (hc : c ≤ 6) (e0 : mm_I h' 230 = mm_I h 230) (e : ∀ a, 230 < a → a < 237 → a ≠ 234 → a ≠ 235 → mm_I h' a = mm_I h a) (e4 : ∀ q, q < 14 → mm_I h' 234 q = if q = r then nI c else mm_I h 234 q)
    (e5 : ∀ q i j, q < 14 → q ≠ r → i < 6 → j < 4 → mm_I h' 235 (24 * q + 4 * i + j) = mm_I h 235 (24 * q + 4 * i + j)) (e6 : ∀ i j, i < c → j < 4 → mm_I h' 235 (24 * r + 4 * i + j) = nI (d i j)) : MS h' (rowA A r c d) := by
  obtain ⟨m0, m1, m2, m3, m4, m5, m6, m7, m8⟩ := M
  refine ⟨by rw [e0]; exact m0, by rw [e0]; exact m1, by rw [e0]; exact m2, by rw [e 231 (by decide) (by decide) (by decide) (by decide)]; exact m3, by rw [e 232 (by decide) (by decide) (by decide) (by decide)]; exact m4, by rw [e 233 (by decide) (by decide) (by decide) (by decide)]; exact m5, fun q hq => ?_, fun q hq i hi j hj => ?_, by rw [e 236 (by decide) (by decide) (by decide) (by decide)]; exact m8⟩
  · show _ = nI (va_up (sc A) r c q)
    rw [e4 q hq]
    by_cases eq : q = r
    · subst eq; rw [if_pos rfl, va_up_self]
    · rw [if_neg eq, va_up_ne _ _ eq]; exact m6 q hq
  · have hi : i < va_up (sc A) r c q := hi
    show _ = nI (va_up (sd A) r d q i j)
    by_cases eq : q = r
    · subst eq
      rw [va_up_self] at hi ⊢
      exact e6 i j hi hj
    · rw [va_up_ne _ _ eq] at hi ⊢
      have h6 := (hA.2.2.2.2.2.1 q hq).1
      rw [e5 q i j hq eq (by omega) hj]
      exact m7 q hq i hi j hj
theorem y_rule (hz : OkZ z) (hG : Gr h) (M : MX h z) (x1 x2 x3 x4 x5 x6 : Int32) : ∃ h', f_X10_rule h 230 x1 x2 x3 x4 x5 x6 = some ((opRule z x1 x2 x3 x4 x5 x6).1, h') ∧ MX h' (opRule z x1 x2 x3 x4 x5 x6).2 ∧ Only h h' MF := by
  have hA := hz.1
  have h7 := hA.2.1
  have no : opRule z x1 x2 x3 x4 x5 x6 = (-1, z) → (∃ h', some ((-1 : Int32), h) = some ((opRule z x1 x2 x3 x4 x5 x6).1, h') ∧ MX h' (opRule z x1 x2 x3 x4 x5 x6).2 ∧ Only h h' MF) := fun q => by rw [q]; exact ⟨h, rfl, M, Only.rf⟩
  unfold f_X10_rule
  rw [r_K hG, r_I hG, bS, M.1.1]
  rcases idx_cases x1 2 (by omega) with ⟨bk, h1, rfl, i1⟩ | ⟨-, i1, c⟩
  · rw [isInL_y (show bk ≤ 1 by omega) (by decide), bS, if_neg (by decide)]
    rcases idx_cases x2 (sn (zA z)) (by omega) with ⟨s, h2, rfl, i2⟩ | ⟨-, i2, c⟩
    · rw [isIn_y h2 (by omega), bS, if_neg (by decide)]
      rcases idx_cases x3 16 (by omega) with ⟨v, h3, rfl, i3⟩ | ⟨-, i3, c⟩
      · rcases idx_cases x4 16 (by omega) with ⟨b, h4, rfl, i4⟩ | ⟨-, i4, c⟩
        · rw [mSpan_y hG h3 h4, bS, if_neg (by decide)]
          rcases idx_cases x5 10 (by omega) with ⟨rk, h5, rfl, i5⟩ | ⟨-, i5, c⟩
          · rw [isInL_y (show rk ≤ 9 by omega) (by decide), bS, if_neg (by decide)]
            rcases idx_cases x6 5 (by omega) with ⟨ac, h6, rfl, i6⟩ | ⟨-, i6, c⟩
            · have hr : 7 * bk + s < 14 := by omega
              have ok := (hA.2.2.2.2.2.1 _ hr).1
              have eO : opRule z (nI bk) (nI s) (nI v) (nI b) (nI rk) (nI ac) = if sc (zA z) (7 * bk + s) = 6 then (-1, z) else (nI (sc (zA z) (7 * bk + s) + 1), freshZ z (ruleA (zA z) (7 * bk + s) (four v b rk ac))) := by
                unfold opRule
                rw [i1, i2, i3, i4, i5, i6]
              rw [isInL_y (show ac ≤ 4 by omega) (by decide), bS, if_neg (by decide), r_6 hG, bS, cl_mul2, nI_add, aI_s hG (by decide) (by decide) (show 7 * bk + s < 14 from hr) (M.1.2.2.2.2.2.2.1 _ hr), bS, it_eq1 (by omega) (by decide)]
              by_cases c : sc (zA z) (7 * bk + s) = 6
              · rw [if_pos c]
                exact no (by rw [eO, if_pos c])
              · rw [if_neg c, ruleAt_eq hG, bS, eO, if_neg c]
                generalize 7 * bk + s = r at hr ok c ⊢
                generalize hn : sc (zA z) r = n at ok c ⊢
                have hb : 24 * r + 4 * n + 3 < 336 := by omega
                rw [cl_add, cl_add, cl_add, cl_add, r_7 hG, bS, sI_g hG (by decide) (by decide) (show 24 * r + 4 * n < 336 by omega), bS, r_7 hG.si, bS, sI_g hG.si (by decide) (by decide) (show 24 * r + 4 * n + 1 < 336 by omega), bS, r_7 hG.si.si, bS, sI_g hG.si.si (by decide) (by decide) (show 24 * r + 4 * n + 2 < 336 by omega), bS, r_7 hG.si.si.si, bS, sI_g hG.si.si.si (by decide) (by decide) (show 24 * r + 4 * n + 3 < 336 by omega), bS, r_6 hG.si.si.si.si, bS, sI_g hG.si.si.si.si (by decide) (by decide) (show r < 14 from hr), bS, changed_eq hG.si.si.si.si.si, bS]
                have w : Sc h (mm_si (mm_si (mm_si (mm_si (mm_si h 235 (24 * r + 4 * n) (nI v)) 235 (24 * r + 4 * n + 1) (nI b)) 235 (24 * r + 4 * n + 2) (nI rk)) 235 (24 * r + 4 * n + 3) (nI ac)) 234 r (nI (n + 1))) := ((((Sc.si (by omega)).tr (Sc.si (by omega))).tr (Sc.si (by omega))).tr (Sc.si (by omega))).tr (Sc.si (by omega))
                have N : MS (mm_si (mm_si (mm_si (mm_si (mm_si h 235 (24 * r + 4 * n) (nI v)) 235 (24 * r + 4 * n + 1) (nI b)) 235 (24 * r + 4 * n + 2) (nI rk)) 235 (24 * r + 4 * n + 3) (nI ac)) 234 r (nI (n + 1))) (rowA (zA z) r (n + 1) (addD (sd (zA z) r) n (four v b rk ac))) := by
                  refine M.1.row hA hr (by omega) (by rw [si_c (by decide), si_c (by decide), si_c (by decide), si_c (by decide), si_c (by decide)]) (fun a _ _ n4 n5 => by rw [si_c n4, si_c n5, si_c n5, si_c n5, si_c n5]) (fun q hq => ?_) (fun q i j hq hne hi hj => ?_) (fun i j hi hj => ?_)
                  · by_cases eq : q = r
                    · subst eq; rw [si_s, if_pos rfl]
                    · rw [si_o2 eq, si_o (by decide), si_o (by decide), si_o (by decide), si_o (by decide), if_neg eq]
                  · rw [si_o (by decide), si_o2 (by omega), si_o2 (by omega), si_o2 (by omega), si_o2 (by omega)]
                  · rw [si_o (by decide)]
                    unfold addD
                    by_cases ei : i = n
                    · rw [if_pos ei, ei]
                      rcases (show j = 0 ∨ j = 1 ∨ j = 2 ∨ j = 3 by omega) with rfl | rfl | rfl | rfl
                      · rw [si_o2 (by omega), si_o2 (by omega), si_o2 (by omega), Nat.add_zero, si_s]; rfl
                      · rw [si_o2 (by omega), si_o2 (by omega), si_s]; rfl
                      · rw [si_o2 (by omega), si_s]; rfl
                      · rw [si_s]; rfl
                    · rw [if_neg ei, si_o2 (by omega), si_o2 (by omega), si_o2 (by omega), si_o2 (by omega)]
                      exact M.1.2.2.2.2.2.2.2.1 r hr i (by omega) j hj
                have fin := w.fin M N
                have eR : ruleA (zA z) r (four v b rk ac) = rowA (zA z) r (n + 1) (addD (sd (zA z) r) n (four v b rk ac)) := by unfold ruleA rowA; rw [hn]
                rw [eR]
                exact ⟨_, rfl, fin.1, fin.2⟩
            · rw [isInL_n (by decide) c, bS, if_pos rfl]
              exact no (by unfold opRule; rw [i1, i2, i3, i4, i5, i6])
          · rw [isInL_n (by decide) c, bS, if_pos rfl]
            exact no (by unfold opRule; rw [i1, i2, i3, i4, i5])
        · rw [mSpan_n2 hG h3 c, bS, if_pos rfl]
          exact no (by unfold opRule; rw [i1, i2, i3, i4])
      · rw [mSpan_n1 hG c, bS, if_pos rfl]
        exact no (by unfold opRule; rw [i1, i2, i3])
    · rw [isIn_n (by omega) c, bS, if_pos rfl]
      exact no (by unfold opRule; rw [i1, i2])
  · rw [isInL_n (by decide) c, bS, if_pos rfl]
    exact no (by unfold opRule; rw [i1])
theorem ruleAt_5 {b s : Nat} (hG : Gr h) : f_X10_ruleAt h 230 (nI b) (nI s) 5 = some (nI (24 * (7 * b + s) + 20)) := ruleAt_eq (b := b) (s := s) (i := 5) hG
theorem ruleAt_z {b s : Nat} (hG : Gr h) : f_X10_ruleAt h 230 (nI b) (nI s) 0 = some (nI (24 * (7 * b + s))) := by
  have : f_X10_ruleAt h 230 (nI b) (nI s) 0 = some (nI (24 * (7 * b + s) + 4 * 0)) := ruleAt_eq (b := b) (s := s) (i := 0) hG
  rw [Nat.mul_zero, Nat.add_zero] at this
  exact this
theorem sk_L55 {h0 : MH} {b s i : Nat} (hb : b < 2) (hs : s < 7) (hi : i < 6) (k : MH → Option (Int32 × MH)) :
    ∀ (n f x : Nat) (h : MH), n + x = 24 * (7 * b + s) + 20 → 24 * (7 * b + s) + 4 * i ≤ x → n < f → Gr h → Only h0 h (fun a => a = 235) → (∀ q, mm_I h 235 q = if 24 * (7 * b + s) + 4 * i ≤ q ∧ q < x then mm_I h0 235 (q + 4) else mm_I h0 235 q) →
      ∃ h', f_X10_strike_L55 k 230 (nI b) (nI s) f h (nI x) = k h' ∧ Only h0 h' (fun a => a = 235) ∧ ∀ q, mm_I h' 235 q = if 24 * (7 * b + s) + 4 * i ≤ q ∧ q < 24 * (7 * b + s) + 20 then mm_I h0 235 (q + 4) else mm_I h0 235 q := by
  intro n
  induction n with
  | zero =>
    intro f x h hn hx hf hG o q
    obtain ⟨f, rfl⟩ : ∃ g, f = g + 1 := ⟨f - 1, by omega⟩
    refine ⟨h, ?_, o, fun y => by rw [q y, show x = 24 * (7 * b + s) + 20 by omega]⟩
    rw [f_X10_strike_L55, ruleAt_5 hG, bS, in_le (by omega) (by omega), if_pos (by omega)]
  | succ n ih =>
    intro f x h hn hx hf hG o q
    obtain ⟨f, rfl⟩ : ∃ g, f = g + 1 := ⟨f - 1, by omega⟩
    have ev : mm_I h 235 (x + 4) = mm_I h0 235 (x + 4) := by rw [q (x + 4), if_neg (by omega)]
    obtain ⟨h2, e2, o2, q2⟩ := ih f (x + 1) (mm_si h 235 x (mm_I h0 235 (x + 4))) (by omega) (by omega) (by omega) hG.si (o.tr (Only.si rfl)) (fun y => by
      by_cases ey : y = x
      · subst ey; rw [si_s, if_pos (by omega)]
      · rw [si_o2 ey, q y]
        by_cases c : 24 * (7 * b + s) + 4 * i ≤ y ∧ y < x
        · rw [if_pos c, if_pos (by omega)]
        · rw [if_neg c, if_neg (by omega)])
    refine ⟨h2, ?_, o2, q2⟩
    rw [f_X10_strike_L55, ruleAt_5 hG, bS, in_le (by omega) (by omega), if_neg (by omega), r_7 hG, bS, bS, cl_add, aI_g hG (by decide) (by decide) (show x + 4 < 336 by omega), bS, ev, sI_g hG (by decide) (by decide) (show x < 336 by omega), bS, cl_add]
    exact e2
theorem y_strike (hz : OkZ z) (hG : Gr h) (M : MX h z) (x1 x2 x3 : Int32) : ∃ h', f_X10_strike h 230 x1 x2 x3 = some ((opStrike z x1 x2 x3).1, h') ∧ MX h' (opStrike z x1 x2 x3).2 ∧ Only h h' MF := by
  have hA := hz.1
  have h7 := hA.2.1
  have no : opStrike z x1 x2 x3 = (-1, z) → (∃ h', some ((-1 : Int32), h) = some ((opStrike z x1 x2 x3).1, h') ∧ MX h' (opStrike z x1 x2 x3).2 ∧ Only h h' MF) := fun q => by rw [q]; exact ⟨h, rfl, M, Only.rf⟩
  unfold f_X10_strike
  rw [r_K hG, r_I hG, bS, M.1.1]
  rcases idx_cases x1 2 (by omega) with ⟨bk, h1, rfl, i1⟩ | ⟨-, i1, c⟩
  · rw [isInL_y (show bk ≤ 1 by omega) (by decide), bS, if_neg (by decide)]
    rcases idx_cases x2 (sn (zA z)) (by omega) with ⟨s, h2, rfl, i2⟩ | ⟨-, i2, c⟩
    · have hr : 7 * bk + s < 14 := by omega
      have ok := (hA.2.2.2.2.2.1 _ hr).1
      rw [isIn_y h2 (by omega), bS, if_neg (by decide), r_6 hG, bS, cl_mul2, nI_add, aI_s hG (by decide) (by decide) (show 7 * bk + s < 14 from hr) (M.1.2.2.2.2.2.2.1 _ hr), bS]
      rcases idx_cases x3 (sc (zA z) (7 * bk + s)) (by omega) with ⟨i, h3, rfl, i3⟩ | ⟨-, i3, c⟩
      · have eO : opStrike z (nI bk) (nI s) (nI i) = (nI (sc (zA z) (7 * bk + s) - 1), freshZ z (strikeA (zA z) (7 * bk + s) i)) := by
          unfold opStrike
          rw [i1, i2]
          show (match idx (nI i) (sc (zA z) (7 * bk + s)) with | some i => _ | none => _) = _
          rw [i3]
        rw [isIn_y h3 (by omega), bS, if_neg (by decide), ruleAt_eq hG, bS, eO]
        obtain ⟨h4, e4, o4, q4⟩ := sk_L55 (h0 := h) (b := bk) (s := s) (i := i) (by omega) (by omega) (by omega) (fun he89 => (gR he89 230 10 6).bind fun b90 => (aI he89 b90 (nI (7 * bk + s))).bind fun v100 => (sI he89 b90 (nI (7 * bk + s)) (v100 - (1 : Int32))).bind fun h103 => (f_X10_changed h103 230).bind fun h105 => (gR h105 230 10 6).bind fun b109 => (aI h105 b109 (nI (7 * bk + s))).bind fun v118 => some (v118, h105)) (20 - 4 * i) fuel (24 * (7 * bk + s) + 4 * i) h (by omega) (by omega) (by unfold fuel; omega) hG Only.rf (fun q => by rw [if_neg (by omega)])
        rw [e4]
        generalize 7 * bk + s = r at hr ok h3 q4 ⊢
        generalize hn : sc (zA z) r = n at ok h3 ⊢
        have G4 := o4.Gr hG
        have e34 : mm_I h4 234 r = nI n := by rw [o4.2.2.2.2.2 234 (by decide), M.1.2.2.2.2.2.2.1 r hr, hn]
        rw [r_6 G4, bS, aI_s G4 (by decide) (by decide) (show r < 14 from hr) e34, bS, cl_sub (by show 1 ≤ n; omega), sI_g G4 (by decide) (by decide) (show r < 14 from hr), bS, changed_eq G4.si, bS, r_6 G4.si.ch, bS, aI_g G4.si.ch (by decide) (by decide) (show r < 14 from hr), bS, ch_c (by decide), si_s]
        have w : Sc h (mm_si h4 234 r (nI (n - 1))) := (Sc.of o4 (fun a q => by omega)).tr (Sc.si (by omega))
        have N : MS (mm_si h4 234 r (nI (n - 1))) (rowA (zA z) r (n - 1) (cutD (sd (zA z) r) i)) := by
          refine M.1.row hA hr (by omega) (by rw [si_c (by decide), o4.2.2.2.2.2 230 (by decide)]) (fun a _ _ n4 n5 => by rw [si_c n4, o4.2.2.2.2.2 a n5]) (fun q hq => ?_) (fun q i' j hq hne hi hj => ?_) (fun i' j hi hj => ?_)
          · by_cases eq : q = r
            · subst eq; rw [si_s, if_pos rfl]
            · rw [si_o2 eq, o4.2.2.2.2.2 234 (by decide), if_neg eq]
          · rw [si_o (by decide), q4, if_neg (by omega)]
          · rw [si_o (by decide), q4]
            unfold cutD
            by_cases ci : i' < i
            · rw [if_neg (by omega), if_pos ci]
              exact M.1.2.2.2.2.2.2.2.1 r hr i' (by omega) j hj
            · rw [if_pos (by omega), if_neg ci, show 24 * r + 4 * i' + j + 4 = 24 * r + 4 * (i' + 1) + j by omega]
              exact M.1.2.2.2.2.2.2.2.1 r hr (i' + 1) (by omega) j hj
        have fin := w.fin M N
        have eR : strikeA (zA z) r i = rowA (zA z) r (n - 1) (cutD (sd (zA z) r) i) := by unfold strikeA rowA; rw [hn]
        rw [eR]
        exact ⟨_, rfl, fin.1, fin.2⟩
      · rw [isIn_n (by omega) c, bS, if_pos rfl]
        refine no ?_
        unfold opStrike
        rw [i1, i2]
        show (match idx x3 (sc (zA z) (7 * bk + s)) with | some i => _ | none => _) = _
        rw [i3]
    · rw [isIn_n (by omega) c, bS, if_pos rfl]
      exact no (by unfold opStrike; rw [i1, i2])
  · rw [isInL_n (by decide) c, bS, if_pos rfl]
    exact no (by unfold opStrike; rw [i1])
theorem cp_L34 {h0 : MH} {b s : Nat} (hb : b < 2) (hs : s < 7) (k : MH → Option (Int32 × MH)) :
    ∀ (n f x : Nat) (h : MH), n + x = 24 → n < f → Gr h → Only h0 h (fun a => a = 235) → (∀ q, mm_I h 235 q = if 24 * (7 * (1 - b) + s) ≤ q ∧ q < 24 * (7 * (1 - b) + s) + x then mm_I h0 235 (24 * (7 * b + s) + (q - 24 * (7 * (1 - b) + s))) else mm_I h0 235 q) →
      ∃ h', f_X10_copy_L34 k 230 (nI s) (nI b) (nI (1 - b)) f h (nI x) = k h' ∧ Only h0 h' (fun a => a = 235) ∧ ∀ q, mm_I h' 235 q = if 24 * (7 * (1 - b) + s) ≤ q ∧ q < 24 * (7 * (1 - b) + s) + 24 then mm_I h0 235 (24 * (7 * b + s) + (q - 24 * (7 * (1 - b) + s))) else mm_I h0 235 q := by
  intro n
  induction n with
  | zero =>
    intro f x h hn hf hG o q
    obtain ⟨f, rfl⟩ : ∃ g, f = g + 1 := ⟨f - 1, by omega⟩
    refine ⟨h, ?_, o, fun y => by rw [q y, show x = 24 by omega]⟩
    rw [f_X10_copy_L34, it_le2 (by omega) (by decide), if_pos (by omega)]
  | succ n ih =>
    intro f x h hn hf hG o q
    obtain ⟨f, rfl⟩ : ∃ g, f = g + 1 := ⟨f - 1, by omega⟩
    have ev : mm_I h 235 (24 * (7 * b + s) + x) = mm_I h0 235 (24 * (7 * b + s) + x) := by rw [q, if_neg (by omega)]
    obtain ⟨h2, e2, o2, q2⟩ := ih f (x + 1) (mm_si h 235 (24 * (7 * (1 - b) + s) + x) (mm_I h0 235 (24 * (7 * b + s) + x))) (by omega) (by omega) hG.si (o.tr (Only.si rfl)) (fun y => by
      by_cases ey : y = 24 * (7 * (1 - b) + s) + x
      · subst ey; rw [si_s, if_pos (by omega), show 24 * (7 * (1 - b) + s) + x - 24 * (7 * (1 - b) + s) = x by omega]
      · rw [si_o2 ey, q y]
        by_cases c : 24 * (7 * (1 - b) + s) ≤ y ∧ y < 24 * (7 * (1 - b) + s) + x
        · rw [if_pos c, if_pos (by omega)]
        · rw [if_neg c, if_neg (by omega)])
    refine ⟨h2, ?_, o2, q2⟩
    rw [f_X10_copy_L34, it_le2 (by omega) (by decide), if_neg (by omega), r_7 hG, bS, ruleAt_z hG, bS, bS, ruleAt_z hG, bS, nI_add, aI_g hG (by decide) (by decide) (show 24 * (7 * b + s) + x < 336 by omega), bS, ev, nI_add, sI_g hG (by decide) (by decide) (show 24 * (7 * (1 - b) + s) + x < 336 by omega), bS, cl_add]
    exact e2
theorem cp_j25 {b s : Nat} (hz : OkZ z) (hG : Gr h) (M : MX h z) (hb : b < 2) (hs : s < 7) : ∃ h', f_X10_copy_j25 h 230 (nI s) (nI b) = some (nI (sc (zA z) (7 * b + s)), h') ∧ MX h' (freshZ z (copyA (zA z) (7 * (1 - b) + s) (7 * b + s))) ∧ Only h h' MF := by
  have hA := hz.1
  have hf : 7 * b + s < 14 := by omega
  have ht : 7 * (1 - b) + s < 14 := by omega
  have e1 : (1 : Int32) - nI b = nI (1 - b) := pk_sub (show b ≤ 1 by omega)
  obtain ⟨h4, e4, o4, q4⟩ := cp_L34 (h0 := h) (b := b) (s := s) hb hs (fun he78 => (gR he78 230 10 6).bind fun b79 => (gR he78 230 10 6).bind fun b90 => (aI he78 b90 (((7 : Int32) * nI b) + nI s)).bind fun v99 => (sI he78 b79 (((7 : Int32) * nI (1 - b)) + nI s) v99).bind fun h100 => (f_X10_changed h100 230).bind fun h102 => (gR h102 230 10 6).bind fun b106 => (aI h102 b106 (((7 : Int32) * nI (1 - b)) + nI s)).bind fun v116 => some (v116, h102)) 24 fuel 0 h rfl (by decide) hG Only.rf (fun q => by rw [if_neg (by omega)])
  have G4 := o4.Gr hG
  have e34 : mm_I h4 234 (7 * b + s) = nI (sc (zA z) (7 * b + s)) := by rw [o4.2.2.2.2.2 234 (by decide), M.1.2.2.2.2.2.2.1 _ hf]
  have w : Sc h (mm_si h4 234 (7 * (1 - b) + s) (nI (sc (zA z) (7 * b + s)))) := (Sc.of o4 (fun a q => by omega)).tr (Sc.si (by omega))
  have N : MS (mm_si h4 234 (7 * (1 - b) + s) (nI (sc (zA z) (7 * b + s)))) (rowA (zA z) (7 * (1 - b) + s) (sc (zA z) (7 * b + s)) (sd (zA z) (7 * b + s))) := by
    have ok := (hA.2.2.2.2.2.1 _ hf).1
    refine M.1.row hA ht ok (by rw [si_c (by decide), o4.2.2.2.2.2 230 (by decide)]) (fun a _ _ n4 n5 => by rw [si_c n4, o4.2.2.2.2.2 a n5]) (fun q hq => ?_) (fun q i' j hq hne hi hj => ?_) (fun i' j hi hj => ?_)
    · by_cases eq : q = 7 * (1 - b) + s
      · subst eq; rw [si_s, if_pos rfl]
      · rw [si_o2 eq, o4.2.2.2.2.2 234 (by decide), if_neg eq]
    · rw [si_o (by decide), q4, if_neg (by omega)]
    · rw [si_o (by decide), q4, if_pos (by omega), show 24 * (7 * b + s) + (24 * (7 * (1 - b) + s) + 4 * i' + j - 24 * (7 * (1 - b) + s)) = 24 * (7 * b + s) + 4 * i' + j by omega]
      exact M.1.2.2.2.2.2.2.2.1 _ hf i' hi j hj
  have fin := w.fin M N
  refine ⟨_, ?_, fin.1, fin.2⟩
  unfold f_X10_copy_j25
  rw [e1]
  refine e4.trans ?_
  rw [r_6 G4, bS, bS, cl_mul2, nI_add, cl_mul2, nI_add, aI_s G4 (by decide) (by decide) (show 7 * b + s < 14 from hf) e34, bS, sI_g G4 (by decide) (by decide) (show 7 * (1 - b) + s < 14 from ht), bS, changed_eq G4.si, bS, r_6 G4.si.ch, bS, aI_g G4.si.ch (by decide) (by decide) (show 7 * (1 - b) + s < 14 from ht), bS, ch_c (by decide), si_s]
theorem y_copy (hz : OkZ z) (hG : Gr h) (M : MX h z) (x1 x2 : Int32) : ∃ h', f_X10_copy h 230 x1 x2 = some ((opCopy z x1 x2).1, h') ∧ MX h' (opCopy z x1 x2).2 ∧ Only h h' MF := by
  have hA := hz.1
  have h7 := hA.2.1
  unfold f_X10_copy
  rw [r_K hG, r_I hG, bS, M.1.1]
  rcases idx_cases x1 (sn (zA z)) (by omega) with ⟨s, h1, rfl, i1⟩ | ⟨-, i1, c⟩
  · rw [isIn_y h1 (by omega), bS, if_neg (by decide)]
    by_cases c : x2 = 0
    · have eO : opCopy z (nI s) x2 = (nI (sc (zA z) (7 + s)), freshZ z (copyA (zA z) s (7 + s))) := by unfold opCopy; rw [i1]; simp only [c]; rfl
      obtain ⟨h2, e2, M2, o2⟩ := cp_j25 (b := 1) (s := s) hz hG M (by decide) (by omega)
      rw [if_pos c, eO]
      rw [show 7 * (1 - 1) + s = s by omega, show 7 * 1 + s = 7 + s by omega] at M2
      rw [show 7 * 1 + s = 7 + s by omega] at e2
      exact ⟨h2, e2, M2, o2⟩
    · have eO : opCopy z (nI s) x2 = (nI (sc (zA z) s), freshZ z (copyA (zA z) (7 + s) s)) := by unfold opCopy; rw [i1]; simp only [c]; rfl
      obtain ⟨h2, e2, M2, o2⟩ := cp_j25 (b := 0) (s := s) hz hG M (by decide) (by omega)
      rw [if_neg c, eO]
      rw [show 7 * (1 - 0) + s = 7 + s by omega, show 7 * 0 + s = s by omega] at M2
      rw [show 7 * 0 + s = s by omega] at e2
      exact ⟨h2, e2, M2, o2⟩
  · have eO : opCopy z x1 x2 = (-1, z) := by unfold opCopy; rw [i1]
    rw [isIn_n (by omega) c, bS, if_pos rfl, eO]
    exact ⟨h, rfl, M, Only.rf⟩
/-- wants -/
theorem wt_j88 {k v b a c s : Int32} (hz : OkZ z) (hG : Gr h) (M : MX h z) (h10 : sw (zA z) ≠ 10) : ∃ h', f_X10_want_j88 h 230 k v b a c s = some (nI (sw (zA z)), h') ∧ MX h' (freshZ z (wantA (zA z) (six k v b a c s))) ∧ Only h h' MF := by
  have hA := hz.1
  have hw := hA.2.2.2.2.2.2.1
  have m2 := M.1.2.2.1
  generalize hn : sw (zA z) = n at h10 hw m2
  have w : Sc h (mm_si (mm_si (mm_si (mm_si (mm_si (mm_si (mm_si h 236 (6 * n) k) 236 (6 * n + 1) v) 236 (6 * n + 2) b) 236 (6 * n + 3) a) 236 (6 * n + 4) c) 236 (6 * n + 5) s) 230 2 (nI (n + 1))) := ((((((Sc.si (by omega)).tr (Sc.si (by omega))).tr (Sc.si (by omega))).tr (Sc.si (by omega))).tr (Sc.si (by omega))).tr (Sc.si (by omega))).tr (Sc.si0 (by omega))
  have N : MS (mm_si (mm_si (mm_si (mm_si (mm_si (mm_si (mm_si h 236 (6 * n) k) 236 (6 * n + 1) v) 236 (6 * n + 2) b) 236 (6 * n + 3) a) 236 (6 * n + 4) c) 236 (6 * n + 5) s) 230 2 (nI (n + 1))) (wantA (zA z) (six k v b a c s)) := by
    obtain ⟨m0, m1, -, m3, m4, m5, m6, m7, m8⟩ := M.1
    have ec : ∀ q, q ≠ 230 → q ≠ 236 → mm_I (mm_si (mm_si (mm_si (mm_si (mm_si (mm_si (mm_si h 236 (6 * n) k) 236 (6 * n + 1) v) 236 (6 * n + 2) b) 236 (6 * n + 3) a) 236 (6 * n + 4) c) 236 (6 * n + 5) s) 230 2 (nI (n + 1))) q = mm_I h q := fun q n0 n1 => by rw [si_c n0, si_c n1, si_c n1, si_c n1, si_c n1, si_c n1, si_c n1]
    refine ⟨by rw [si_o2 (by decide), si_o (by decide), si_o (by decide), si_o (by decide), si_o (by decide), si_o (by decide), si_o (by decide)]; exact m0, by rw [si_o2 (by decide), si_o (by decide), si_o (by decide), si_o (by decide), si_o (by decide), si_o (by decide), si_o (by decide)]; exact m1, by rw [si_s, ← hn]; rfl, by rw [ec 231 (by decide) (by decide)]; exact m3, by rw [ec 232 (by decide) (by decide)]; exact m4, by rw [ec 233 (by decide) (by decide)]; exact m5, by rw [ec 234 (by decide) (by decide)]; exact m6, by rw [ec 235 (by decide) (by decide)]; exact m7, fun i hi j hj => ?_⟩
    have hi : i < sw (zA z) + 1 := hi
    show _ = va_up (sx (zA z)) (sw (zA z)) (six k v b a c s) i j
    rw [hn] at hi ⊢
    rw [si_o (by decide)]
    by_cases ei : i = n
    · subst ei
      rw [va_up_self]
      rcases (show j = 0 ∨ j = 1 ∨ j = 2 ∨ j = 3 ∨ j = 4 ∨ j = 5 by omega) with rfl | rfl | rfl | rfl | rfl | rfl
      · rw [si_o2 (by omega), si_o2 (by omega), si_o2 (by omega), si_o2 (by omega), si_o2 (by omega), Nat.add_zero, si_s]; rfl
      · rw [si_o2 (by omega), si_o2 (by omega), si_o2 (by omega), si_o2 (by omega), si_s]; rfl
      · rw [si_o2 (by omega), si_o2 (by omega), si_o2 (by omega), si_s]; rfl
      · rw [si_o2 (by omega), si_o2 (by omega), si_s]; rfl
      · rw [si_o2 (by omega), si_s]; rfl
      · rw [si_s]; rfl
    · rw [va_up_ne _ _ ei, si_o2 (by omega), si_o2 (by omega), si_o2 (by omega), si_o2 (by omega), si_o2 (by omega), si_o2 (by omega)]
      exact m8 i (by omega) j hj
  have fin := w.fin M N
  refine ⟨_, ?_, fin.1, fin.2⟩
  unfold f_X10_want_j88
  rw [r_I hG, bS, m2, cl_mul2, cl_add, cl_add, cl_add, cl_add, cl_add, r_8 hG, bS, sI_g hG (by decide) (by decide) (show 6 * n < 60 by omega), bS, r_8 hG.si, bS, sI_g hG.si (by decide) (by decide) (show 6 * n + 1 < 60 by omega), bS, r_8 hG.si.si, bS, sI_g hG.si.si (by decide) (by decide) (show 6 * n + 2 < 60 by omega), bS, r_8 hG.si.si.si, bS, sI_g hG.si.si.si (by decide) (by decide) (show 6 * n + 3 < 60 by omega), bS, r_8 hG.si.si.si.si, bS, sI_g hG.si.si.si.si (by decide) (by decide) (show 6 * n + 4 < 60 by omega), bS, r_8 hG.si.si.si.si.si, bS, sI_g hG.si.si.si.si.si (by decide) (by decide) (show 6 * n + 5 < 60 by omega), bS, r_I hG.si.si.si.si.si.si, bS, si_o (by decide), si_o (by decide), si_o (by decide), si_o (by decide), si_o (by decide), si_o (by decide), m2, cl_add, r_P hG.si.si.si.si.si.si, bS, changed_eq hG.si.si.si.si.si.si.si, bS, r_I hG.si.si.si.si.si.si.si.ch, bS, ch_f (by decide) (by decide) (by decide), si_s, cl_sub (by show 1 ≤ n + 1; omega)]
  rfl
theorem y_want (hz : OkZ z) (hG : Gr h) (M : MX h z) (k v b a c s : Int32) : ∃ h', f_X10_want h 230 k v b a c s = some ((opWant z k v b a c s).1, h') ∧ MX h' (opWant z k v b a c s).2 ∧ Only h h' MF := by
  have hA := hz.1
  have h7 := hA.2.1
  have h6 := hA.2.2.1
  have hw := hA.2.2.2.2.2.2.1
  have no : opWant z k v b a c s = (-1, z) → (∃ h', some ((-1 : Int32), h) = some ((opWant z k v b a c s).1, h') ∧ MX h' (opWant z k v b a c s).2 ∧ Only h h' MF) := fun q => by rw [q]; exact ⟨h, rfl, M, Only.rf⟩
  unfold f_X10_want
  rw [r_K hG]
  rcases idx_cases k 5 (by omega) with ⟨q, h1, rfl, i1⟩ | ⟨-, i1, cc⟩
  · rw [isInL_y (show q ≤ 4 by omega) (by decide), bS, if_neg (by decide)]
    rcases idx_cases v 16 (by omega) with ⟨v, h2, rfl, i2⟩ | ⟨-, i2, cc⟩
    · rcases idx_cases b 16 (by omega) with ⟨b, h3, rfl, i3⟩ | ⟨-, i3, cc⟩
      · rw [mSpan_y hG h2 h3, bS, if_neg (by decide), r_I hG, bS, M.1.2.1]
        rcases idx_cases a (sh (zA z)) (by omega) with ⟨a, h4, rfl, i4⟩ | ⟨-, i4, cc⟩
        · rw [isIn_y h4 (by omega), bS, if_neg (by decide), r_I hG, bS, M.1.2.2.1, it_eq1 (by omega) (by decide)]
          have eO : opWant z (nI q) (nI v) (nI b) (nI a) c s = if sw (zA z) = 10 ∨ ((q = 0 ∨ q = 2 ∨ q = 3) ∧ idx c (sh (zA z)) = none) ∨ (q = 3 ∧ idx s (sn (zA z)) = none) then (-1, z) else (nI (sw (zA z)), freshZ z (wantA (zA z) (six (nI q) (nI v) (nI b) (nI a) c s))) := by
            unfold opWant
            rw [i1, i2, i3, i4]
          by_cases c10 : sw (zA z) = 10
          · rw [if_pos c10]
            exact no (by rw [eO, if_pos (Or.inl c10)])
          · rw [if_neg c10, mGoal_eq, bS, b2_it]
            have j66 : ((q = 0 ∨ q = 2 ∨ q = 3) → idx c (sh (zA z)) ≠ none) → (∃ h', f_X10_want_j66 h 230 (nI q) (nI v) (nI b) (nI a) c s = some ((opWant z (nI q) (nI v) (nI b) (nI a) c s).1, h') ∧ MX h' (opWant z (nI q) (nI v) (nI b) (nI a) c s).2 ∧ Only h h' MF) := by
              intro hg
              unfold f_X10_want_j66
              rw [it_eq1 (by omega) (by decide)]
              have yes : (q = 3 → idx s (sn (zA z)) ≠ none) → (∃ h', f_X10_want_j88 h 230 (nI q) (nI v) (nI b) (nI a) c s = some ((opWant z (nI q) (nI v) (nI b) (nI a) c s).1, h') ∧ MX h' (opWant z (nI q) (nI v) (nI b) (nI a) c s).2 ∧ Only h h' MF) := by
                intro h3
                rw [eO, if_neg (by
                  rintro (w | w | w)
                  · exact c10 w
                  · exact hg w.1 w.2
                  · exact h3 w.1 w.2)]
                exact wt_j88 hz hG M c10
              by_cases c3 : q = 3
              · rw [if_pos c3, r_I hG, bS, M.1.1]
                rcases idx_cases s (sn (zA z)) (by omega) with ⟨s', hs, rfl, is⟩ | ⟨-, is, cc⟩
                · rw [isIn_y hs (by omega), bS, if_neg (by decide)]
                  exact yes (fun _ => by rw [is]; simp)
                · rw [isIn_n (by omega) cc, bS, if_pos rfl]
                  exact no (by rw [eO, if_pos (Or.inr (Or.inr ⟨c3, is⟩))])
              · rw [if_neg c3]
                exact yes (fun w => absurd w c3)
            have hgoal : (nI q == 0 || nI q == 2 || nI q == 3) = true ↔ (q = 0 ∨ q = 2 ∨ q = 3) := by
              rcases (show q = 0 ∨ q = 1 ∨ q = 2 ∨ q = 3 ∨ q = 4 by omega) with rfl | rfl | rfl | rfl | rfl <;> decide
            by_cases cg : (nI q == 0 || nI q == 2 || nI q == 3) = true
            · rw [if_pos cg, bS]
              rcases idx_cases c (sh (zA z)) (by omega) with ⟨c', hc, rfl, ic⟩ | ⟨-, ic, cc⟩
              · rw [isIn_y hc (by omega), bS, if_neg (by decide)]
                exact j66 (fun _ => by rw [ic]; simp)
              · rw [isIn_n (by omega) cc, bS, if_pos rfl]
                exact no (by rw [eO, if_pos (Or.inr (Or.inl ⟨hgoal.mp cg, ic⟩))])
            · rw [if_neg cg]
              exact j66 (fun w => absurd (hgoal.mpr w) cg)
        · rw [isIn_n (by omega) cc, bS, if_pos rfl]
          exact no (by unfold opWant; rw [i1, i2, i3, i4])
      · rw [mSpan_n2 hG h2 cc, bS, if_pos rfl]
        exact no (by unfold opWant; rw [i1, i2, i3])
    · rw [mSpan_n1 hG cc, bS, if_pos rfl]
      exact no (by unfold opWant; rw [i1, i2])
  · rw [isInL_n (by decide) cc, bS, if_pos rfl]
    exact no (by unfold opWant; rw [i1])
theorem uw_L21 {h0 : MH} {w i : Nat} (hw : w ≤ 10) (h1 : 1 ≤ w) (hi : i < w) (k : MH → Option (Int32 × MH)) :
    ∀ (n f x : Nat) (h : MH), n + x = 6 * w - 6 → 6 * i ≤ x → n < f → Gr h → mm_I h 230 2 = nI w → Only h0 h (fun a => a = 236) → (∀ q, mm_I h 236 q = if 6 * i ≤ q ∧ q < x then mm_I h0 236 (q + 6) else mm_I h0 236 q) →
      ∃ h', f_X10_unwant_L21 k 230 f h (nI x) = k h' ∧ Only h0 h' (fun a => a = 236) ∧ ∀ q, mm_I h' 236 q = if 6 * i ≤ q ∧ q < 6 * w - 6 then mm_I h0 236 (q + 6) else mm_I h0 236 q := by
  intro n
  induction n with
  | zero =>
    intro f x h hn hx hf hG m2 o q
    obtain ⟨f, rfl⟩ : ∃ g, f = g + 1 := ⟨f - 1, by omega⟩
    refine ⟨h, ?_, o, fun y => by rw [q y, show x = 6 * w - 6 by omega]⟩
    rw [f_X10_unwant_L21, r_I hG, bS, m2, cl_mul2, cl_sub (by show 6 ≤ 6 * w; omega), in_le (by show 6 * w - 6 < _; omega) (by omega), if_pos (by show 6 * w - 6 ≤ x; omega)]
  | succ n ih =>
    intro f x h hn hx hf hG m2 o q
    obtain ⟨f, rfl⟩ : ∃ g, f = g + 1 := ⟨f - 1, by omega⟩
    have ev : mm_I h 236 (x + 6) = mm_I h0 236 (x + 6) := by rw [q (x + 6), if_neg (by omega)]
    obtain ⟨h2, e2, o2, q2⟩ := ih f (x + 1) (mm_si h 236 x (mm_I h0 236 (x + 6))) (by omega) (by omega) (by omega) hG.si (by rw [si_o (by decide)]; exact m2) (o.tr (Only.si rfl)) (fun y => by
      by_cases ey : y = x
      · subst ey; rw [si_s, if_pos (by omega)]
      · rw [si_o2 ey, q y]
        by_cases c : 6 * i ≤ y ∧ y < x
        · rw [if_pos c, if_pos (by omega)]
        · rw [if_neg c, if_neg (by omega)])
    refine ⟨h2, ?_, o2, q2⟩
    rw [f_X10_unwant_L21, r_I hG, bS, m2, cl_mul2, cl_sub (by show 6 ≤ 6 * w; omega), in_le (by show 6 * w - 6 < _; omega) (by omega), if_neg (by show ¬ 6 * w - 6 ≤ x; omega), r_8 hG, bS, bS, cl_add, aI_g hG (by decide) (by decide) (show x + 6 < 60 by omega), bS, ev, sI_g hG (by decide) (by decide) (show x < 60 by omega), bS, cl_add]
    exact e2
theorem y_unwant (hz : OkZ z) (hG : Gr h) (M : MX h z) (x : Int32) : ∃ h', f_X10_unwant h 230 x = some ((opUnwant z x).1, h') ∧ MX h' (opUnwant z x).2 ∧ Only h h' MF := by
  have hA := hz.1
  have hw := hA.2.2.2.2.2.2.1
  unfold f_X10_unwant
  rw [r_K hG, r_I hG, bS, M.1.2.2.1]
  rcases idx_cases x (sw (zA z)) (by omega) with ⟨i, hi, rfl, ii⟩ | ⟨-, ii, c⟩
  · have eO : opUnwant z (nI i) = (nI (sw (zA z) - 1), freshZ z (unwantA (zA z) i)) := by unfold opUnwant; rw [ii]
    obtain ⟨h4, e4, o4, q4⟩ := uw_L21 (h0 := h) (w := sw (zA z)) (i := i) hw (by omega) hi (fun he56 => (gI he56 230 10 2).bind fun v58 => (pI he56 230 10 2 (v58 - (1 : Int32))).bind fun h63 => (f_X10_changed h63 230).bind fun h67 => (gI h67 230 10 2).bind fun v71 => some (v71, h67)) (6 * sw (zA z) - 6 - 6 * i) fuel (6 * i) h (by omega) (by omega) (by unfold fuel; omega) hG M.1.2.2.1 Only.rf (fun q => by rw [if_neg (by omega)])
    have G4 := o4.Gr hG
    have e0 := o4.2.2.2.2.2 230 (by decide)
    rw [isIn_y hi (by omega), bS, if_neg (by decide), cl_mul2, e4, r_I G4, bS, e0, M.1.2.2.1, cl_sub (by show 1 ≤ sw (zA z); omega), r_P G4, bS, changed_eq G4.si, bS, r_I G4.si.ch, bS, ch_f (by decide) (by decide) (by decide), si_s, eO]
    have w : Sc h (mm_si h4 230 2 (nI (sw (zA z) - 1))) := (Sc.of o4 (fun a q => by omega)).tr (Sc.si0 (by omega))
    have N : MS (mm_si h4 230 2 (nI (sw (zA z) - 1))) (unwantA (zA z) i) := by
      obtain ⟨m0, m1, m2, m3, m4, m5, m6, m7, m8⟩ := M.1
      refine ⟨by rw [si_o2 (by decide), e0]; exact m0, by rw [si_o2 (by decide), e0]; exact m1, by rw [si_s]; rfl, by rw [si_c (by decide), o4.2.2.2.2.2 231 (by decide)]; exact m3, by rw [si_c (by decide), o4.2.2.2.2.2 232 (by decide)]; exact m4, by rw [si_c (by decide), o4.2.2.2.2.2 233 (by decide)]; exact m5, by rw [si_c (by decide), o4.2.2.2.2.2 234 (by decide)]; exact m6, by rw [si_c (by decide), o4.2.2.2.2.2 235 (by decide)]; exact m7, fun k hk j hj => ?_⟩
      have hk : k < sw (zA z) - 1 := hk
      show _ = (if k < i then sx (zA z) k else sx (zA z) (k + 1)) j
      rw [si_o (by decide), q4]
      by_cases ck : k < i
      · rw [if_neg (by omega), if_pos ck]
        exact m8 k (by omega) j hj
      · rw [if_pos (by omega), if_neg ck, show 6 * k + j + 6 = 6 * (k + 1) + j by omega]
        exact m8 (k + 1) (by omega) j hj
    have fin := w.fin M N
    exact ⟨_, rfl, fin.1, fin.2⟩
  · have eO : opUnwant z x = (-1, z) := by unfold opUnwant; rw [ii]
    rw [isIn_n (by omega) c, bS, if_pos rfl, eO]
    exact ⟨h, rfl, M, Only.rf⟩
end

/-! ===== the class's runs ===== -/
section
variable {h : MH} {z : ZS}
theorem pkOf_y {at_ ch br : Nat} {ps : List PK} (hG : Gr h) (R : RunIs h (some (at_, ch, ps, br))) (hl : ps.length ≤ 40) {k : Nat} (hk : k < ps.length) : f_X6_packetOf h 106 (nI k) = some (some (108 + 3 * k)) := by
  obtain ⟨r1, r2, r3, r4, r5, r6, r7⟩ := R
  unfold f_X6_packetOf
  repeat (first | rw [gK_g hG (by decide) (by decide)] | rw [gI_g hG (by decide) (by decide)] | rw [gR_g hG (by decide) (by decide) (by rfl)] | rw [bS])
  rw [r1, r4, if_neg (by decide), it_neg (by omega), in_le (by omega) (by omega), if_neg (by omega), aR_g hG (by decide) (by decide) (show k < 40 by omega) (hG.2.2.2 107 _ _ (by decide) (gr_pks (by omega))), bS]
theorem pkOf_n {at_ ch br : Nat} {ps : List PK} (hG : Gr h) (R : RunIs h (some (at_, ch, ps, br))) {x : Int32} (c : x < 0 ∨ nI ps.length ≤ x) : f_X6_packetOf h 106 x = some none := by
  obtain ⟨r1, r2, r3, r4, r5, r6, r7⟩ := R
  unfold f_X6_packetOf
  repeat (first | rw [gK_g hG (by decide) (by decide)] | rw [gI_g hG (by decide) (by decide)] | rw [gR_g hG (by decide) (by decide) (by rfl)] | rw [bS])
  rw [r1, r4, if_neg (by decide)]
  by_cases c0 : x < 0
  · rw [if_pos c0]
  · rw [if_neg c0, if_pos (c.resolve_left c0)]
theorem pkOf_0 (hG : Gr h) (R : RunIs h none) {x : Int32} : f_X6_packetOf h 106 x = some none := by
  have R : mm_I h 106 4 = 0 := R
  unfold f_X6_packetOf
  repeat (first | rw [gK_g hG (by decide) (by decide)] | rw [gI_g hG (by decide) (by decide)] | rw [gR_g hG (by decide) (by decide) (by rfl)] | rw [bS])
  rw [R, if_pos rfl]
def PkAt (h : MH) (k : Nat) (p : PK) : Prop := mm_I h (108 + 3 * k) 1 = nI p.1 ∧ mm_I h (108 + 3 * k) 2 = nI p.2.1 ∧ WayIs h (109 + 3 * k) p.2.2.1 p.2.2.2
theorem und_pk {k : Nat} {p : PK} (hG : Gr h) (hk : k < 40) (q : PkAt h k p) : f_X2_isUnderWay h (108 + 3 * k) = some (if p.2.2.2 = -1 then 1 else 0) := by
  unfold f_X2_isUnderWay
  rw [gK_g hG (by omega) (gk_pk hk), gR_g hG (by omega) (gk_pk hk) (gr_pk hk), bS, end_eq hG (isW_pk hk), bS, q.2.2.2.2.1]
  split <;> rfl
theorem list_last {p : List Nat} (h1 : 1 ≤ p.length) : ∃ q, p = q ++ [p.getLastD 0] := by
  rcases List.eq_nil_or_concat p with rfl | ⟨q, s, rfl⟩
  · simp at h1
  · exact ⟨q, by simp⟩
theorem place_pk {k : Nat} {p : PK} (hG : Gr h) (hk : k < 40) (q : PkAt h k p) (h1 : 1 ≤ p.2.2.1.length) (h7 : p.2.2.1.length ≤ 7) : f_X2_place h (108 + 3 * k) = some (nI (p.2.2.1.getLastD 0)) := by
  obtain ⟨l, el⟩ := list_last h1
  have w := q.2.2
  rw [el] at w
  have hl : l.length < 7 := by
    have := congrArg List.length el
    simp at this; omega
  unfold f_X2_place
  rw [gK_g hG (by omega) (gk_pk hk), gR_g hG (by omega) (gk_pk hk) (gr_pk hk), bS, last_eq hG (isW_pk hk) w hl, bS]
theorem x_packet (hz : OkZ z) (C : CX h z) (x y : Int32) : f_X9_packet h 0 x y = some (opPacket z x y) := by
  obtain ⟨hG, -, -, -, -, -, R⟩ := C
  have hR := hz.2.2.2.2.2
  unfold f_X9_packet opPacket
  repeat (first | rw [gK_g hG (by decide) (by decide)] | rw [gI_g hG (by decide) (by decide)] | rw [gR_g hG (by decide) (by decide) (by rfl)] | rw [bS])
  cases hr : zR2 z with
  | none =>
    rw [hr] at R
    rw [pkOf_0 hG R, bS]
  | some q =>
    obtain ⟨at_, ch, ps, br⟩ := q
    rw [hr] at R hR
    have hl : ps.length ≤ 40 := hR.2.2.1
    have hps := hR.2.2.2.1
    rcases idx_cases x ps.length (by omega) with ⟨k, hk, rfl, ik⟩ | ⟨-, ik, c⟩
    · obtain ⟨p, ep⟩ : ∃ p, ps[k]? = some p := ⟨ps[k], List.getElem?_eq_getElem hk⟩
      have ok := hps p (List.mem_of_getElem? ep)
      have q : PkAt h k p := R.2.2.2.2.2.2 k p ep
      have hk40 : k < 40 := by omega
      rw [pkOf_y hG R hl hk, bS]
      show (f_X2_tell h (108 + 3 * k) y).bind _ = some (match idx (nI k) ps.length with | some k => _ | none => _)
      rw [ik]
      show (f_X2_tell h (108 + 3 * k) y).bind _ = some (match ps[k]? with | some p => _ | none => _)
      rw [ep]
      show (f_X2_tell h (108 + 3 * k) y).bind _ = some (if y = 0 then nI p.1 else if y = 1 then nI p.2.1 else if y = 2 then (if p.2.2.2 = -1 then nI (p.2.2.1.getLastD 0) else -1) else if y = 3 then p.2.2.2 else if y = 4 then nI p.2.2.1.length else (match idx (y - 100) p.2.2.1.length with | some i => if y < 100 then -1 else nI (p.2.2.1.getD i 0) | none => -1))
      unfold f_X2_tell
      rw [gK_g hG (by omega) (gk_pk hk40), gI_g hG (by omega) (gk_pk hk40), bS, q.1, gI_g hG (by omega) (gk_pk hk40), bS, q.2.1, und_pk hG hk40 q, bS, place_pk hG hk40 q ok.2.2.1 ok.2.2.2.1, bS, gR_g hG (by omega) (gk_pk hk40) (gr_pk hk40), bS, end_eq hG (isW_pk hk40), bS, q.2.2.2.2.1, bS, lenW_eq hG (isW_pk hk40) q.2.2, bS, bS]
      by_cases c0 : y = 0
      · rw [if_pos c0, if_pos c0, bS]
      · rw [if_neg c0, if_neg c0]
        by_cases c1 : y = 1
        · rw [if_pos c1, if_pos c1, bS]
        · rw [if_neg c1, if_neg c1]
          by_cases c2 : y = 2
          · rw [if_pos c2, if_pos c2]
            by_cases ce : p.2.2.2 = -1
            · rw [if_pos ce, if_pos ce]; rfl
            · rw [if_neg ce, if_neg ce]; rfl
          · rw [if_neg c2, if_neg c2]
            by_cases c3 : y = 3
            · rw [if_pos c3, if_pos c3, bS]
            · rw [if_neg c3, if_neg c3]
              by_cases c4 : y = 4
              · rw [if_pos c4, if_pos c4, bS]
              · rw [if_neg c4, if_neg c4]
                have h7 := ok.2.2.2.1
                by_cases c5 : y < 100
                · rw [if_pos c5, bS]
                  split
                  · rw [if_pos c5]
                  · rfl
                · rw [if_neg c5]
                  rcases idx_cases (y - 100) p.2.2.1.length (by omega) with ⟨i, hi, e, ii⟩ | ⟨-, ii, c⟩
                  · rw [ii, e, stop_y hG (isW_pk hk40) q.2.2 h7 hi, bS, bS]
                    show _ = some (if y < 100 then (-1 : Int32) else nI (p.2.2.1.getD i 0))
                    rw [if_neg c5]
                  · rw [ii, stop_n hG (isW_pk hk40) q.2.2 c, bS, bS]
    · rw [pkOf_n hG R c, bS]
      show _ = some (match idx x ps.length with | some k => _ | none => _)
      rw [ik]
theorem left_eq {at_ ch br : Nat} {ps : List PK} (hG : Gr h) (hA : OkA (zA z)) (hP : OkP (zA z) (zP z)) (P : PlanIs h (zP z)) (r2 : mm_I h 106 5 = nI at_) (r3 : mm_I h 106 6 = nI ch) (ha : at_ ≤ (zP z).length) (hc : ch < 128) : f_X6_left h 106 = some (nI (leftS (zP z) at_ ch)) := by
  have := P.2.1
  unfold f_X6_left
  repeat (first | rw [gK_g hG (by decide) (by decide)] | rw [gI_g hG (by decide) (by decide)] | rw [gR_g hG (by decide) (by decide) (by rfl)] | rw [bS])
  rw [r2, r3, getP hG P (by omega), bS, bS, nx_apart (getD_lt hA hP _) hc]
  rfl
theorem left_lt {A : SA} (hA : OkA A) {l : List Nat} (hP : OkP A l) (a ch : Nat) : leftS l a ch < 128 := Nat.lt_of_le_of_lt Nat.and_le_left (getD_lt hA hP a)
theorem bc_eq {m : Nat} (hm : m < 128) : f_J6_bitCount_0f7a4 h (nI m) = some (nI (pc m)) := by
  have q : ∀ m, m < 128 → f_J6_bitCount_0f7a4 mh0 (nI m) = some (nI (pc m)) := by decide +kernel
  exact q m hm
theorem x_change (hz : OkZ z) (C : CX h z) (x : Int32) : ∃ h', f_X9_change h 0 x = some ((opChange z x).1, h') ∧ CX h' (opChange z x).2 ∧ CF h h' := by
  have C0 := C
  obtain ⟨hG, J, -, -, P, W, R⟩ := C
  have hR := hz.2.2.2.2.2
  have hA := hz.1
  have h7 := hA.2.1
  have hP := hz.2.2.2.1
  unfold f_X9_change f_X6_takeNew opChange
  repeat (first | rw [gK_g hG (by decide) (by decide)] | rw [gI_g hG (by decide) (by decide)] | rw [gR_g hG (by decide) (by decide) (by rfl)] | rw [bS])
  cases hr : zR2 z with
  | none =>
    rw [hr] at R
    have R : mm_I h 106 4 = 0 := R
    rw [R, if_pos rfl, bS]
    exact ⟨h, rfl, C0, CF.rf⟩
  | some q =>
    obtain ⟨at_, ch, ps, br⟩ := q
    rw [hr] at R hR
    have RR := R
    obtain ⟨r1, r2, r3, r4, r5, r6, r7⟩ := R
    have ha : at_ ≤ (zP z).length := hR.1
    have hc : ch < 128 := hR.2.1
    rw [r1, if_neg (by decide)]
    rcases idx_cases x (sn (zA z)) (by omega) with ⟨s, hs, rfl, ij⟩ | ⟨-, ij, c⟩
    · rw [ij, hasSw_y hG hA J.1 hs, bS, if_neg (by decide), left_eq (br := br) (ps := ps) hG hA hP P r2 r3 ha hc, bS, nx_bt (left_lt hA hP _ _) (by omega), it_eq1 (by have := bit_lt (leftS (zP z) at_ ch) s; omega) (by decide)]
      show ∃ h', _ = some ((if bit (leftS (zP z) at_ ch) s = 0 then ((-1 : Int32), z) else (nI (pc (leftS (zP z) at_ (ch ||| 2 ^ s))), (zA z, zP z, zT z, some (at_, ch ||| 2 ^ s, ps, br)))).1, h') ∧ CX h' (if bit (leftS (zP z) at_ ch) s = 0 then ((-1 : Int32), z) else (nI (pc (leftS (zP z) at_ (ch ||| 2 ^ s))), (zA z, zP z, zT z, some (at_, ch ||| 2 ^ s, ps, br)))).2 ∧ CF h h'
      by_cases cb : bit (leftS (zP z) at_ ch) s = 0
      · rw [if_pos cb, if_pos cb, bS]
        exact ⟨h, rfl, C0, CF.rf⟩
      · rw [if_neg cb, if_neg cb]
        have hc2 : ch ||| 2 ^ s < 128 := (bit_or hc (show s < 7 by omega) (show 0 < 7 by decide)).1
        have o : Only h (mm_si h 106 6 (nI (ch ||| 2 ^ s))) (fun a => a = 106) := Only.si rfl
        have P2 : PlanIs (mm_si h 106 6 (nI (ch ||| 2 ^ s))) (zP z) := P.only o (by decide) (by decide)
        refine ⟨mm_si h 106 6 (nI (ch ||| 2 ^ s)), ?_, CX.mk2 C0 o (fun a q => by omega) (JK.only o (fun a q => by omega) J) P2 (W.only o (by decide) (by decide)) ?_, CF.of o (fun a q => by omega)⟩
        · repeat (first | rw [gK_g hG (by decide) (by decide)] | rw [gI_g hG (by decide) (by decide)] | rw [gR_g hG (by decide) (by decide) (by rfl)] | rw [bS])
          rw [r3, nx_shl (by omega), nx_or, pI_g hG (by decide) (by decide), bS, left_eq (z := z) (br := br) (ps := ps) hG.si hA hP P2 (by rw [si_o2 (by decide)]; exact r2) (by rw [si_s]) ha hc2, bS, bc_eq (left_lt hA hP _ _), bS, bS]
        · refine ⟨?_, ?_, ?_, ?_, ?_, ?_, fun k p hk => ?_⟩
          · rw [si_o2 (by decide)]; exact r1
          · rw [si_o2 (by decide)]; exact r2
          · rw [si_s]
          · rw [si_o2 (by decide)]; exact r4
          · rw [si_o2 (by decide)]; exact r5
          · rw [si_o2 (by decide)]; exact r6
          · obtain ⟨a, b, c⟩ := r7 k p hk
            exact ⟨by rw [si_o (by omega)]; exact a, by rw [si_o (by omega)]; exact b, c.only o (by omega) (by omega)⟩
    · rw [ij, hasSw_n hG J.1 c, bS, if_pos rfl, bS]
      exact ⟨h, rfl, C0, CF.rf⟩
theorem x_next (hz : OkZ z) (C : CX h z) : ∃ h', f_X9_next h 0 = some ((opNext z).1, h') ∧ CX h' (opNext z).2 ∧ CF h h' := by
  have C0 := C
  obtain ⟨hG, J, -, -, P, W, R⟩ := C
  have hR := hz.2.2.2.2.2
  have hA := hz.1
  have hP := hz.2.2.2.1
  have hl7 := P.2.1
  unfold f_X9_next f_X6_nextRound opNext
  repeat (first | rw [gK_g hG (by decide) (by decide)] | rw [gI_g hG (by decide) (by decide)] | rw [gR_g hG (by decide) (by decide) (by rfl)] | rw [bS])
  cases hr : zR2 z with
  | none =>
    rw [hr] at R
    have R : mm_I h 106 4 = 0 := R
    rw [R, if_pos rfl, bS]
    exact ⟨h, rfl, C0, CF.rf⟩
  | some q =>
    obtain ⟨at_, ch, ps, br⟩ := q
    rw [hr] at R hR
    obtain ⟨r1, r2, r3, r4, r5, r6, r7⟩ := R
    have ha : at_ ≤ (zP z).length := hR.1
    have hc : ch < 128 := hR.2.1
    have hl40 : ps.length ≤ 40 := hR.2.2.1
    have hund : undS ps ≤ 40 := Nat.le_trans (List.length_filter_le _ _) hl40
    show ∃ h', _ = some ((if at_ < (zP z).length ∧ leftS (zP z) at_ ch = 0 ∧ undS ps = 0 then (nI (at_ + 1), (zA z, zP z, zT z, some (at_ + 1, ch, ps, br))) else ((-1 : Int32), z)).1, h') ∧ CX h' (if at_ < (zP z).length ∧ leftS (zP z) at_ ch = 0 ∧ undS ps = 0 then (nI (at_ + 1), (zA z, zP z, zT z, some (at_ + 1, ch, ps, br))) else ((-1 : Int32), z)).2 ∧ CF h h'
    rw [r1, if_neg (by decide), r2]
    by_cases c1 : at_ < (zP z).length
    · rw [hasP_y hG P c1, bS, if_neg (by decide), left_eq (br := br) (ps := ps) hG hA hP P r2 r3 ha hc, bS, it_eq1 (by have := left_lt hA hP at_ ch; omega) (by decide)]
      by_cases c2 : leftS (zP z) at_ ch = 0
      · rw [if_pos c2, r5, it_eq1 (by omega) (by decide)]
        by_cases c3 : undS ps = 0
        · rw [if_pos c3, if_pos ⟨c1, c2, c3⟩]
          have o : Only h (mm_si h 106 5 (nI (at_ + 1))) (fun a => a = 106) := Only.si rfl
          refine ⟨mm_si h 106 5 (nI (at_ + 1)), ?_, CX.mk2 C0 o (fun a q => by omega) (JK.only o (fun a q => by omega) J) (P.only o (by decide) (by decide)) (W.only o (by decide) (by decide)) ?_, CF.of o (fun a q => by omega)⟩
          · rw [cl_add, pI_g hG (by decide) (by decide), bS]
            repeat (first | rw [gK_g hG.si (by decide) (by decide)] | rw [gI_g hG.si (by decide) (by decide)] | rw [gR_g hG.si (by decide) (by decide) (by rfl)] | rw [bS])
            rw [si_s]
          · refine ⟨?_, ?_, ?_, ?_, ?_, ?_, fun k p hk => ?_⟩
            · rw [si_o2 (by decide)]; exact r1
            · rw [si_s]
            · rw [si_o2 (by decide)]; exact r3
            · rw [si_o2 (by decide)]; exact r4
            · rw [si_o2 (by decide)]; exact r5
            · rw [si_o2 (by decide)]; exact r6
            · obtain ⟨a, b, c⟩ := r7 k p hk
              exact ⟨by rw [si_o (by omega)]; exact a, by rw [si_o (by omega)]; exact b, c.only o (by omega) (by omega)⟩
        · rw [if_neg c3, if_neg (fun q => c3 q.2.2), bS]
          exact ⟨h, rfl, C0, CF.rf⟩
      · rw [if_neg c2, if_neg (fun q => c2 q.2.1), bS]
        exact ⟨h, rfl, C0, CF.rf⟩
    · rw [hasP_n hG P (Or.inr ((nI_leI (by omega) (by omega)).mpr (by omega))), bS, if_pos rfl, if_neg (fun q => c1 q.1), bS]
      exact ⟨h, rfl, C0, CF.rf⟩
theorem und_app (ps : List PK) (p : PK) : undS (ps ++ [p]) = undS ps + (if p.2.2.2 = -1 then 1 else 0) := by
  unfold undS
  rw [List.filter_append, List.length_append]
  by_cases c : p.2.2.2 = -1
  · simp [c]
  · simp [c]
theorem x_send (hz : OkZ z) (C : CX h z) (x y : Int32) : ∃ h', f_X9_send h 0 x y = some ((opSend z x y).1, h') ∧ CX h' (opSend z x y).2 ∧ CF h h' := by
  have C0 := C
  obtain ⟨hG, J, -, -, P, W, R⟩ := C
  have hR := hz.2.2.2.2.2
  have hA := hz.1
  have h6 := hA.2.2.1
  unfold f_X9_send opSend f_X6_isLive
  repeat (first | rw [gK_g hG (by decide) (by decide)] | rw [gI_g hG (by decide) (by decide)] | rw [gR_g hG (by decide) (by decide) (by rfl)] | rw [bS])
  cases hr : zR2 z with
  | none =>
    rw [hr] at R
    have R : mm_I h 106 4 = 0 := R
    rw [R, show zR (0 : Int32) = some 0 from rfl, bS, if_pos rfl]
    exact ⟨h, rfl, C0, CF.rf⟩
  | some q =>
    obtain ⟨at_, ch, ps, br⟩ := q
    rw [hr] at R hR
    obtain ⟨r1, r2, r3, r4, r5, r6, r7⟩ := R
    have hl40 : ps.length ≤ 40 := hR.2.2.1
    have hund : undS ps ≤ 40 := Nat.le_trans (List.length_filter_le _ _) hl40
    rw [r1, show zR (1 : Int32) = some 1 from rfl, bS, if_neg (by decide)]
    repeat (first | rw [gK_g hG (by decide) (by decide)] | rw [gI_g hG (by decide) (by decide)] | rw [gR_g hG (by decide) (by decide) (by rfl)] | rw [bS])
    rcases idx_cases x (sh (zA z)) (by omega) with ⟨j, hj, rfl, ij⟩ | ⟨-, ij, c⟩
    · rw [ij, hasHost_y hG hA J.1 hj, bS, if_neg (by decide)]
      rcases idx_cases y 16 (by decide) with ⟨m, hm, rfl, im⟩ | ⟨-, im, c⟩
      · rw [im, isMark_y hm, bS, if_neg (by decide)]
        unfold f_X6_packetCount
        repeat (first | rw [gK_g hG (by decide) (by decide)] | rw [gI_g hG (by decide) (by decide)] | rw [gR_g hG (by decide) (by decide) (by rfl)] | rw [bS])
        show ∃ h', _ = some ((if ps.length = 40 then ((-1 : Int32), z) else (nI ps.length, (zA z, zP z, zT z, some (at_, ch, ps ++ [(j, m, [sq (zA z) j / 4], -1)], br)))).1, h') ∧ CX h' (if ps.length = 40 then ((-1 : Int32), z) else (nI ps.length, (zA z, zP z, zT z, some (at_, ch, ps ++ [(j, m, [sq (zA z) j / 4], -1)], br)))).2 ∧ CF h h'
        rw [r4, it_lt1 (by omega) (by decide)]
        by_cases c4 : ps.length = 40
        · rw [if_neg (show ¬ ps.length < 40 by omega), if_pos c4]
          exact ⟨h, rfl, C0, CF.rf⟩
        · have hk : ps.length < 40 := by omega
          have hq : sq (zA z) j / 4 < 7 := by have := hA.2.2.2.2.1 j hj; omega
          rw [if_pos hk, if_neg c4]
          have o1 : Only h (mm_si (mm_si h (108 + 3 * ps.length) 1 (nI j)) (108 + 3 * ps.length) 2 (nI m)) (fun a => a = 108 + 3 * ps.length) := (Only.si (P := fun a => a = 108 + 3 * ps.length) rfl).tr (Only.si rfl)
          obtain ⟨h2, e2, o2, q2⟩ := startAt_eq (h := mm_si (mm_si h (108 + 3 * ps.length) 1 (nI j)) (108 + 3 * ps.length) 2 (nI m)) hG.si.si (isW_pk hk) hq
          have G2 := o2.Gr hG.si.si
          have oa : Only h h2 (fun a => 108 + 3 * ps.length ≤ a ∧ a < 111 + 3 * ps.length) := (o1.mono (fun a q => by omega)).tr (o2.mono (fun a q => by unfold Two at q; omega))
          have e106 := oa.2.2.2.2.2 106 (by omega)
          have o3 : Only h2 (mm_si (mm_si h2 106 7 (nI (ps.length + 1))) 106 8 (nI (undS ps + 1))) (fun a => a = 106) := (Only.si (P := fun a => a = 106) rfl).tr (Only.si rfl)
          have o : Only h (mm_si (mm_si h2 106 7 (nI (ps.length + 1))) 106 8 (nI (undS ps + 1))) (fun a => a = 106 ∨ (108 + 3 * ps.length ≤ a ∧ a < 111 + 3 * ps.length)) := (oa.mono (fun a q => Or.inr q)).tr (o3.mono (fun a q => Or.inl q))
          refine ⟨mm_si (mm_si h2 106 7 (nI (ps.length + 1))) 106 8 (nI (undS ps + 1)), ?_, CX.mk2 C0 o (fun a q => by omega) (JK.only o (fun a q => by omega) J) (P.only o (by omega) (by omega)) (W.only o (by omega) (by omega)) ?_, CF.of o (fun a q => by omega)⟩
          · unfold f_X6_putIn
            repeat (first | rw [gK_g hG (by decide) (by decide)] | rw [gI_g hG (by decide) (by decide)] | rw [gR_g hG (by decide) (by decide) (by rfl)] | rw [bS])
            rw [r4, it_lt1 (by omega) (by decide), if_pos hk, aR_g hG (by decide) (by decide) (show ps.length < 40 by omega) (hG.2.2.2 107 _ _ (by decide) (gr_pks hk)), bS]
            repeat (first | rw [gK_g hG (by decide) (by decide)] | rw [gI_g hG (by decide) (by decide)] | rw [gR_g hG (by decide) (by decide) (by rfl)] | rw [bS])
            rw [switchOf_eq hG hA J.1 hj, bS]
            unfold f_X2_putInAt
            rw [gK_g hG (by omega) (gk_pk hk), pI_g hG (by omega) (gk_pk hk), bS, pI_g hG.si (by omega) (gk_pk hk), bS, gR_g hG.si.si (by omega) (gk_pk hk) (gr_pk hk), bS, e2, bS, bS, gI_g G2 (by decide) (by decide), bS, e106, r4, cl_add, pI_g G2 (by decide) (by decide), bS, gI_g G2.si (by decide) (by decide), bS, si_o2 (by decide), e106, r5, cl_add, pI_g G2.si (by decide) (by decide), bS, gI_g G2.si.si (by decide) (by decide), bS, si_o2 (by decide), si_s, cl_sub (by omega), bS]
            rfl
          · refine ⟨?_, ?_, ?_, ?_, ?_, ?_, fun k p hk2 => ?_⟩
            · rw [si_o2 (by decide), si_o2 (by decide), e106]; exact r1
            · rw [si_o2 (by decide), si_o2 (by decide), e106]; exact r2
            · rw [si_o2 (by decide), si_o2 (by decide), e106]; exact r3
            · rw [si_o2 (by decide), si_s]; simp
            · rw [si_s, und_app]; rfl
            · rw [si_o2 (by decide), si_o2 (by decide), e106]; exact r6
            · have hlt : k < (ps ++ [((j, m, [sq (zA z) j / 4], -1) : PK)]).length := (List.getElem?_eq_some_iff.mp hk2).1
              simp at hlt
              by_cases ek : k = ps.length
              · subst ek
                simp at hk2
                subst hk2
                refine ⟨?_, ?_, q2.only o3 (by omega) (by omega)⟩
                · rw [o3.2.2.2.2.2 _ (by omega), o2.2.2.2.2.2 _ (by unfold Two; omega), si_o2 (by decide), si_s]
                · rw [o3.2.2.2.2.2 _ (by omega), o2.2.2.2.2.2 _ (by unfold Two; omega), si_s]
              · rw [List.getElem?_append_left (by omega)] at hk2
                obtain ⟨a, b, c⟩ := r7 k p hk2
                exact ⟨by rw [o.2.2.2.2.2 _ (by omega)]; exact a, by rw [o.2.2.2.2.2 _ (by omega)]; exact b, c.only o (by omega) (by omega)⟩
      · rw [im, isMark_n c, bS, if_pos rfl]
        exact ⟨h, rfl, C0, CF.rf⟩
    · rw [ij, hasHost_n hG J.1 c, bS, if_pos rfl]
      exact ⟨h, rfl, C0, CF.rf⟩
end

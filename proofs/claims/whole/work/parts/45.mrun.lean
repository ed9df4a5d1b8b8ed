/-! ===== the reference's calls: runs and packets ===== -/
section
variable {h : MH} {z : ZS}
theorem und_L {at_ ch br : Nat} {ps : List PK} (hG : Gr h) (R : MR h (some (at_, ch, ps, br))) (hl : ps.length ≤ 40) (k : Int32 → Option Int32) :
    ∀ (n f i : Nat), n + i = ps.length → n < f → f_X10_underWay_L4 k h 230 f (nI (undS (ps.take i))) (nI i) = k (nI (undS ps))
  | 0, f, i, hn, hf => by
    obtain ⟨f, rfl⟩ : ∃ g, f = g + 1 := ⟨f - 1, by omega⟩
    rw [f_X10_underWay_L4, r_I hG, bS, R.2.2.2.1, in_le (by omega) (by omega), if_pos (by omega), List.take_of_length_le (by omega)]
  | n + 1, f, i, hn, hf => by
    obtain ⟨f, rfl⟩ : ∃ g, f = g + 1 := ⟨f - 1, by omega⟩
    have hi : i < ps.length := by omega
    have q := R.2.2.2.2.2 i ps[i] (List.getElem?_eq_getElem hi)
    have ih := und_L hG R hl k n f (i + 1) (by omega) (by omega)
    rw [List.take_add_one, List.getElem?_eq_getElem hi] at ih
    rw [show ps.take i ++ (some ps[i]).toList = ps.take i ++ [ps[i]] from rfl, und_app] at ih
    rw [f_X10_underWay_L4, r_I hG, bS, R.2.2.2.1, in_le (by omega) (by omega), if_neg (by omega), r_36 hG, bS, aI_g hG (by decide) (by decide) (show i < 40 by omega), q.2.2.1, bS, cl_add, cl_add, show nI (undS (ps.take i)) + (0 : Int32) = nI (undS (ps.take i) + 0) from nI_add _ 0]
    by_cases c : ps[i].2.2.2 = -1
    · rw [if_pos c] at ih ⊢; exact ih
    · rw [if_neg c] at ih ⊢; exact ih
theorem und_eq {at_ ch br : Nat} {ps : List PK} (hG : Gr h) (R : MR h (some (at_, ch, ps, br))) (hl : ps.length ≤ 40) : f_X10_underWay h 230 = some (nI (undS ps)) := by
  unfold f_X10_underWay
  rw [r_K hG]
  exact und_L hG R hl (fun x => some x) ps.length fuel 0 (by omega) (by unfold fuel; omega)
theorem mLeft_eq {A : SA} {l : List Nat} {at_ ch br : Nat} {ps : List PK} (hG : Gr h) (hA : OkA A) (hP : OkP A l) (P : MP h l) (R : MR h (some (at_, ch, ps, br))) (ha : at_ ≤ l.length) (hc : ch < 128) : f_X10_left h 230 = some (nI (leftS l at_ ch)) := by
  have h7 := P.2.1
  have hg := getD_lt hA hP at_
  unfold f_X10_left leftS
  rw [r_K hG, r_I hG, bS, R.2.1, r_I hG, bS, P.1, in_le (by omega) (by omega)]
  by_cases c : l.length ≤ at_
  · rw [if_pos c, List.getD_eq_getElem?_getD, List.getElem?_eq_none c]
    simp
    rfl
  · rw [if_neg c, r_25 hG, bS, bS, aI_s hG (by decide) (by decide) (show at_ < 7 by omega) (P.2.2 at_ _ (getD_some (by omega))), bS, r_I hG, bS, R.2.2.1, nx_apart hg hc]
theorem y_next (hz : OkZ z) (hG : Gr h) (M : MX h z) : ∃ h', f_X10_next h 230 = some ((opNext z).1, h') ∧ MX h' (opNext z).2 ∧ Only h h' MF := by
  have hA := hz.1
  have hP := hz.2.2.2.1
  have hR := hz.2.2.2.2.2
  have P := M.2.2.1
  have h7 := P.2.1
  have R := M.2.2.2.2
  unfold f_X10_next
  rw [r_K hG, r_I hG, bS]
  cases hr : zR2 z with
  | none =>
    rw [hr] at R
    have R : mm_I h 230 28 = 0 := R
    have eO : opNext z = (-1, z) := by unfold opNext; rw [hr]
    rw [R, if_pos rfl, eO]
    exact ⟨h, rfl, M, Only.rf⟩
  | some q =>
    obtain ⟨at_, ch, ps, br⟩ := q
    rw [hr] at R hR
    have hl40 : ps.length ≤ 40 := hR.2.2.1
    have hund : undS ps ≤ 40 := Nat.le_trans (List.length_filter_le _ _) hl40
    have ha : at_ ≤ (zP z).length := hR.1
    have hc : ch < 128 := hR.2.1
    have hlf := left_lt hA hP at_ ch
    have eO : opNext z = if at_ < (zP z).length ∧ leftS (zP z) at_ ch = 0 ∧ undS ps = 0 then (nI (at_ + 1), (zA z, zP z, zT z, some (at_ + 1, ch, ps, br))) else (-1, z) := by unfold opNext; rw [hr]
    have no : opNext z = (-1, z) → (∃ h', some ((-1 : Int32), h) = some ((opNext z).1, h') ∧ MX h' (opNext z).2 ∧ Only h h' MF) := fun q => by rw [q]; exact ⟨h, rfl, M, Only.rf⟩
    rw [R.1, if_neg (by decide), r_I hG, bS, R.2.1, r_I hG, bS, P.1, in_eq (by omega) (by omega)]
    by_cases c1 : at_ = (zP z).length
    · rw [if_pos c1]
      exact no (by rw [eO, if_neg (fun q => by omega)])
    · rw [if_neg c1, mLeft_eq hG hA hP P R ha hc, bS, it_eq1 (by omega) (by decide)]
      by_cases c2 : leftS (zP z) at_ ch = 0
      · rw [if_pos c2, und_eq hG R hl40, bS, it_le1 (by omega) (by decide)]
        by_cases c3 : undS ps = 0
        · rw [if_pos (by show undS ps ≤ 0; omega), bS, cl_add, r_P hG, bS, r_I hG.si, bS, si_s, eO, if_pos ⟨by omega, c2, c3⟩]
          have w : ∀ k, k ≠ 29 → mm_I (mm_si h 230 29 (nI (at_ + 1))) 230 k = mm_I h 230 k := fun k hk => by rw [si_o2 hk]
          have e : ∀ a, a ≠ 230 → mm_I (mm_si h 230 29 (nI (at_ + 1))) a = mm_I h a := fun a ha => si_c ha
          refine ⟨_, rfl, ⟨M.1.cong (fun k hk => w k (by omega)) (fun a _ _ => e a (by omega)), M.2.1.cong (w 21 (by decide)) (e 241 (by decide)), ?_, ?_, ?_⟩, si_m (by omega)⟩
          · show MP _ (zP z)
            unfold MP at P ⊢
            rw [w 24 (by decide), e 243 (by decide)]; exact P
          · show MT _ (zT z)
            have := M.2.2.2.1
            unfold MT at this ⊢
            rw [w 19 (by decide), w 20 (by decide), e 240 (by decide)]; exact this
          · refine ⟨by rw [w 28 (by decide)]; exact R.1, si_s, by rw [w 30 (by decide)]; exact R.2.2.1, by rw [w 31 (by decide)]; exact R.2.2.2.1, by rw [w 32 (by decide)]; exact R.2.2.2.2.1, fun k p hk => ?_⟩
            have := R.2.2.2.2.2 k p hk
            unfold MPk at this ⊢
            rw [e 246 (by decide), e 247 (by decide), e 248 (by decide), e 249 (by decide), e 250 (by decide), e 251 (by decide)]; exact this
        · rw [if_neg (by show ¬ undS ps ≤ 0; omega)]
          exact no (by rw [eO, if_neg (fun q => c3 q.2.2)])
      · rw [if_neg c2]
        exact no (by rw [eO, if_neg (fun q => c2 q.2.1)])
theorem y_run (hz : OkZ z) (hG : Gr h) (M : MX h z) (x : Int32) : f_X10_run h 230 x = some (opRun z x) := by
  have hR := hz.2.2.2.2.2
  have R := M.2.2.2.2
  unfold f_X10_run opRun
  rw [r_K hG, r_I hG, bS]
  cases hr : zR2 z with
  | none =>
    rw [hr] at R
    have R : mm_I h 230 28 = 0 := R
    rw [R, if_pos rfl]
  | some q =>
    obtain ⟨at_, ch, ps, br⟩ := q
    rw [hr] at R hR
    rw [R.1, if_neg (by decide)]
    show _ = some (if x = 0 then nI at_ else if x = 1 then nI ch else if x = 2 then nI ps.length else if x = 3 then nI (undS ps) else if x = 4 then nI br else -1)
    by_cases c0 : x = 0
    · rw [if_pos c0, if_pos c0, r_I hG, bS, R.2.1]
    rw [if_neg c0, if_neg c0]
    by_cases c1 : x = 1
    · rw [if_pos c1, if_pos c1, r_I hG, bS, R.2.2.1]
    rw [if_neg c1, if_neg c1]
    by_cases c2 : x = 2
    · rw [if_pos c2, if_pos c2, r_I hG, bS, R.2.2.2.1]
    rw [if_neg c2, if_neg c2]
    by_cases c3 : x = 3
    · rw [if_pos c3, if_pos c3, und_eq hG R hR.2.2.1, bS]
    rw [if_neg c3, if_neg c3]
    by_cases c4 : x = 4
    · rw [if_pos c4, if_pos c4, r_I hG, bS, R.2.2.2.2.1]
    rw [if_neg c4, if_neg c4]
/-- changes -/
theorem pc_sm (m : Nat) : pc m = smS (bit m) 7 := by
  unfold pc
  simp only [smS]
  omega
theorem bit_out {m n k : Nat} (h : m < 2 ^ n) (hk : n ≤ k) : bit m k = 0 := by
  have : m < 2 ^ k := Nat.lt_of_lt_of_le h (Nat.pow_le_pow_right (by decide) hk)
  unfold bit
  rw [Nat.div_eq_of_lt this]
theorem ch_L {A : SA} {l : List Nat} {at_ ch br : Nat} {ps : List PK} (hG : Gr h) (hA : OkA A) (hP : OkP A l) (M : MS h A) (P : MP h l) (R : MR h (some (at_, ch, ps, br))) (ha : at_ ≤ l.length) (hc : ch < 128) (k : Int32 → Option (Int32 × MH)) :
    ∀ (n f x : Nat), n + x = sn A → n < f → f_X10_change_L50 k h 230 f (nI (smS (bit (leftS l at_ ch)) x)) (nI x) = k (nI (smS (bit (leftS l at_ ch)) (sn A)))
  | 0, f, x, hn, hf => by
    have h7 := hA.2.1
    obtain ⟨f, rfl⟩ : ∃ g, f = g + 1 := ⟨f - 1, by omega⟩
    rw [f_X10_change_L50, r_I hG, bS, M.1, in_le (by omega) (by omega), if_pos (by omega), show x = sn A by omega]
  | n + 1, f, x, hn, hf => by
    have h7 := hA.2.1
    obtain ⟨f, rfl⟩ : ∃ g, f = g + 1 := ⟨f - 1, by omega⟩
    have ih := ch_L hG hA hP M P R ha hc k n f (x + 1) (by omega) (by omega)
    rw [f_X10_change_L50, r_I hG, bS, M.1, in_le (by omega) (by omega), if_neg (by omega), mLeft_eq hG hA hP P R ha hc, bS, nx_bt (left_lt hA hP at_ ch) (by omega), nI_add, cl_add]
    exact ih
theorem left_all {A : SA} {l : List Nat} (hA : OkA A) (hP : OkP A l) (a ch : Nat) : leftS l a ch < 2 ^ sn A := by
  have hp := all_pow hA
  have h1 : leftS l a ch ≤ l.getD a 0 := Nat.and_le_left
  have h2 : l.getD a 0 ≤ allS A := by
    by_cases c : a < l.length
    · exact wi_all (get_un hA hP c).2.2
    · rw [List.getD_eq_getElem?_getD, List.getElem?_eq_none (by omega)]; exact Nat.zero_le _
  omega
theorem pc_left {A : SA} {l : List Nat} (hA : OkA A) (hP : OkP A l) (a ch : Nat) : smS (bit (leftS l a ch)) (sn A) = pc (leftS l a ch) := by
  have h7 := hA.2.1
  have := smS_ext (f := bit (leftS l a ch)) (u := sn A) (fun s h1 _ => bit_out (left_all hA hP a ch) h1) (7 - sn A) (by omega)
  rw [show sn A + (7 - sn A) = 7 by omega] at this
  rw [pc_sm, this]
theorem y_change (hz : OkZ z) (hG : Gr h) (M : MX h z) (x : Int32) : ∃ h', f_X10_change h 230 x = some ((opChange z x).1, h') ∧ MX h' (opChange z x).2 ∧ Only h h' MF := by
  have hA := hz.1
  have hn7 := hA.2.1
  have hP := hz.2.2.2.1
  have hR := hz.2.2.2.2.2
  have P := M.2.2.1
  have R := M.2.2.2.2
  have no : opChange z x = (-1, z) → (∃ h', some ((-1 : Int32), h) = some ((opChange z x).1, h') ∧ MX h' (opChange z x).2 ∧ Only h h' MF) := fun q => by rw [q]; exact ⟨h, rfl, M, Only.rf⟩
  unfold f_X10_change
  rw [r_K hG, r_I hG, bS]
  cases hr : zR2 z with
  | none =>
    rw [hr] at R
    have R : mm_I h 230 28 = 0 := R
    rw [R, if_pos rfl]
    exact no (by unfold opChange; rw [hr])
  | some q =>
    obtain ⟨at_, ch, ps, br⟩ := q
    rw [hr] at R hR
    have ha : at_ ≤ (zP z).length := hR.1
    have hc : ch < 128 := hR.2.1
    have hlf := left_lt hA hP at_ ch
    rw [R.1, if_neg (by decide), r_I hG, bS, M.1.1]
    rcases idx_cases x (sn (zA z)) (by omega) with ⟨s, hs, rfl, is⟩ | ⟨-, is, c⟩
    · have eO : opChange z (nI s) = if bit (leftS (zP z) at_ ch) s = 0 then (-1, z) else (nI (pc (leftS (zP z) at_ (ch ||| 2 ^ s))), (zA z, zP z, zT z, some (at_, ch ||| 2 ^ s, ps, br))) := by unfold opChange; rw [hr, is]
      have hb := bit_lt (leftS (zP z) at_ ch) s
      rw [isIn_y hs (by omega), bS, if_neg (by decide), mLeft_eq hG hA hP P R ha hc, bS, nx_bt hlf (by omega), it_eq1 (by omega) (by decide)]
      by_cases c1 : bit (leftS (zP z) at_ ch) s = 0
      · rw [if_pos c1]
        exact no (by rw [eO, if_pos c1])
      · have ho := or_gt hc (show s < 7 by omega)
        rw [if_neg c1, r_I hG, bS, R.2.2.1, nx_shl (by omega), nx_or, r_P hG, bS, eO, if_neg c1]
        have w : ∀ k, k ≠ 30 → mm_I (mm_si h 230 30 (nI (ch ||| 2 ^ s))) 230 k = mm_I h 230 k := fun k hk => by rw [si_o2 hk]
        have e : ∀ a, a ≠ 230 → mm_I (mm_si h 230 30 (nI (ch ||| 2 ^ s))) a = mm_I h a := fun a ha => si_c ha
        have M1 : MS (mm_si h 230 30 (nI (ch ||| 2 ^ s))) (zA z) := M.1.cong (fun k hk => w k (by omega)) (fun a _ _ => e a (by omega))
        have P1 : MP (mm_si h 230 30 (nI (ch ||| 2 ^ s))) (zP z) := by
          unfold MP at P ⊢
          rw [w 24 (by decide), e 243 (by decide)]; exact P
        have R1 : MR (mm_si h 230 30 (nI (ch ||| 2 ^ s))) (some (at_, ch ||| 2 ^ s, ps, br)) := by
          refine ⟨by rw [w 28 (by decide)]; exact R.1, by rw [w 29 (by decide)]; exact R.2.1, si_s, by rw [w 31 (by decide)]; exact R.2.2.2.1, by rw [w 32 (by decide)]; exact R.2.2.2.2.1, fun k p hk => ?_⟩
          have := R.2.2.2.2.2 k p hk
          unfold MPk at this ⊢
          rw [e 246 (by decide), e 247 (by decide), e 248 (by decide), e 249 (by decide), e 250 (by decide), e 251 (by decide)]; exact this
        have e1 := ch_L hG.si hA hP M1 P1 R1 ha ho.2 (fun x2e75 => some (x2e75, mm_si h 230 30 (nI (ch ||| 2 ^ s)))) (sn (zA z)) fuel 0 (by omega) (by unfold fuel; omega)
        refine ⟨_, e1.trans (by rw [pc_left hA hP]), ⟨M1, M.2.1.cong (w 21 (by decide)) (e 241 (by decide)), P1, ?_, R1⟩, si_m (by omega)⟩
        show MT _ (zT z)
        have := M.2.2.2.1
        unfold MT at this ⊢
        rw [w 19 (by decide), w 20 (by decide), e 240 (by decide)]; exact this
    · rw [isIn_n (by omega) c, bS, if_pos rfl]
      exact no (by unfold opChange; rw [hr, is])
/-- packets -/
theorem isPk_0 (hG : Gr h) (R : MR h none) {x : Int32} : f_X10_isPacket h 230 x = some 0 := by
  have R : mm_I h 230 28 = 0 := R
  unfold f_X10_isPacket
  rw [r_K hG, r_I hG, bS, R, if_pos rfl]
theorem isPk_y {at_ ch br : Nat} {ps : List PK} (hG : Gr h) (R : MR h (some (at_, ch, ps, br))) (hl : ps.length ≤ 40) {k : Nat} (hk : k < ps.length) : f_X10_isPacket h 230 (nI k) = some 1 := by
  unfold f_X10_isPacket
  rw [r_K hG, r_I hG, bS, R.1, if_neg (by decide), r_I hG, bS, R.2.2.2.1, isIn_y hk (by omega), bS, if_neg (by decide)]
theorem isPk_n {at_ ch br : Nat} {ps : List PK} (hG : Gr h) (R : MR h (some (at_, ch, ps, br))) (hl : ps.length ≤ 40) {x : Int32} (c : x < 0 ∨ nI ps.length ≤ x) : f_X10_isPacket h 230 x = some 0 := by
  unfold f_X10_isPacket
  rw [r_K hG, r_I hG, bS, R.1, if_neg (by decide), r_I hG, bS, R.2.2.2.1, isIn_n (by omega) c, bS, if_pos rfl]
theorem y_packet (hz : OkZ z) (hG : Gr h) (M : MX h z) (x y : Int32) : f_X10_packet h 230 x y = some (opPacket z x y) := by
  have hR := hz.2.2.2.2.2
  have R := M.2.2.2.2
  unfold f_X10_packet opPacket
  rw [r_K hG]
  cases hr : zR2 z with
  | none =>
    rw [hr] at R
    rw [isPk_0 hG R, bS, if_pos rfl]
  | some q =>
    obtain ⟨at_, ch, ps, br⟩ := q
    rw [hr] at R hR
    have hl : ps.length ≤ 40 := hR.2.2.1
    rcases idx_cases x ps.length (by omega) with ⟨k, hk, rfl, ik⟩ | ⟨-, ik, c⟩
    · obtain ⟨p, ep⟩ : ∃ p, ps[k]? = some p := ⟨ps[k], List.getElem?_eq_getElem hk⟩
      have ok := hR.2.2.2.1 p (List.mem_of_getElem? ep)
      obtain ⟨q1, q2, q3, q4, q5, q6⟩ := R.2.2.2.2.2 k p ep
      have hk40 : k < 40 := by omega
      have h7 := ok.2.2.2.1
      rw [isPk_y hG R hl hk, bS, if_neg (by decide)]
      show _ = some (match idx (nI k) ps.length with | some k => _ | none => _)
      rw [ik]
      show _ = some (match ps[k]? with | some p => _ | none => _)
      rw [ep]
      show _ = some (if y = 0 then nI p.1 else if y = 1 then nI p.2.1 else if y = 2 then (if p.2.2.2 = -1 then nI (p.2.2.1.getLastD 0) else -1) else if y = 3 then p.2.2.2 else if y = 4 then nI p.2.2.1.length else (match idx (y - 100) p.2.2.1.length with | some i => if y < 100 then -1 else nI (p.2.2.1.getD i 0) | none => -1))
      rw [r_36 hG, r_37 hG]
      by_cases c0 : y = 0
      · rw [if_pos c0, if_pos c0, r_33 hG, bS, aI_s hG (by decide) (by decide) (show k < 40 from hk40) q1, bS]
      rw [if_neg c0, if_neg c0]
      by_cases c1 : y = 1
      · rw [if_pos c1, if_pos c1, r_34 hG, bS, aI_s hG (by decide) (by decide) (show k < 40 from hk40) q2, bS]
      rw [if_neg c1, if_neg c1]
      by_cases c2 : y = 2
      · rw [if_pos c2, if_pos c2, bS, aI_g hG (by decide) (by decide) (show k < 40 from hk40), q3, bS]
        by_cases ce : p.2.2.2 = -1
        · rw [if_pos ce, if_pos ce, r_35 hG, bS, aI_s hG (by decide) (by decide) (show k < 40 from hk40) q5, bS]
        · rw [if_neg ce, if_neg ce]
      rw [if_neg c2, if_neg c2]
      by_cases c3 : y = 3
      · rw [if_pos c3, if_pos c3, bS, aI_g hG (by decide) (by decide) (show k < 40 from hk40), q3, bS]
      rw [if_neg c3, if_neg c3]
      by_cases c4 : y = 4
      · rw [if_pos c4, if_pos c4, bS, aI_s hG (by decide) (by decide) (show k < 40 from hk40) q4, bS]
      rw [if_neg c4, if_neg c4, bS, aI_s hG (by decide) (by decide) (show k < 40 from hk40) q4, bS, cl_add2]
      unfold f_X10_isIn
      by_cases c5 : y < 100
      · rw [if_pos c5, bS, if_pos rfl]
        split
        · rw [if_pos c5]
        · rfl
      · obtain ⟨j, hj, rfl⟩ := nI_of (show ¬ y < 0 from fun q => c5 (Int32.lt_trans q (by decide)))
        have hj1 : 100 ≤ j := by
          apply Decidable.byContradiction
          intro z
          exact c5 ((nI_ltI hj (show 100 < 2 ^ 31 by decide)).mpr (by omega))
        rw [if_neg c5, in_lt (by omega) (by omega), cl_sub (by show 100 ≤ j; omega)]
        by_cases c6 : 99 + p.2.2.1.length < j
        · rw [if_pos c6, bS, if_pos rfl, idx_no (by omega) (fun i hi e => by have := nI_inj (show j - OfNat.ofNat 100 < 2 ^ 31 by show j - 100 < _; omega) (by omega) e; have : j - 100 = i := this; omega)]
        · have hi : j - 100 < p.2.2.1.length := by omega
          have e8 : nI (8 * k + j) - (100 : Int32) = nI (8 * k + (j - 100)) := by
            rw [cl_sub (by show 100 ≤ 8 * k + j; omega)]
            show nI (8 * k + j - 100) = _
            congr 1; omega
          rw [if_neg c6, bS, if_neg (by decide), r_38 hG, bS, cl_mul2, nI_add, e8, aI_s hG (by decide) (by decide) (show 8 * k + (j - 100) < 320 by omega) (q6 (j - 100) _ (getD_some hi)), bS, show idx (nI (j - OfNat.ofNat 100)) p.2.2.1.length = some (j - 100) from idx_nI hi (by omega)]
          show _ = some (if nI j < 100 then (-1 : Int32) else nI (p.2.2.1.getD (j - 100) 0))
          rw [if_neg c5]
    · rw [isPk_n hG R hl c, bS, if_pos rfl]
      show _ = some (match idx x ps.length with | some k => _ | none => _)
      rw [ik]
theorem y_send (hz : OkZ z) (hG : Gr h) (M : MX h z) (x y : Int32) : ∃ h', f_X10_send h 230 x y = some ((opSend z x y).1, h') ∧ MX h' (opSend z x y).2 ∧ Only h h' MF := by
  have hA := hz.1
  have h6 := hA.2.2.1
  have hR := hz.2.2.2.2.2
  have R := M.2.2.2.2
  have no : opSend z x y = (-1, z) → (∃ h', some ((-1 : Int32), h) = some ((opSend z x y).1, h') ∧ MX h' (opSend z x y).2 ∧ Only h h' MF) := fun q => by rw [q]; exact ⟨h, rfl, M, Only.rf⟩
  unfold f_X10_send
  rw [r_K hG, r_I hG, bS]
  cases hr : zR2 z with
  | none =>
    rw [hr] at R
    have R : mm_I h 230 28 = 0 := R
    rw [R, if_pos rfl]
    exact no (by unfold opSend; rw [hr])
  | some q =>
    obtain ⟨at_, ch, ps, br⟩ := q
    rw [hr] at R hR
    have hl40 : ps.length ≤ 40 := hR.2.2.1
    rw [R.1, if_neg (by decide), r_I hG, bS, M.1.2.1]
    rcases idx_cases x (sh (zA z)) (by omega) with ⟨j, hj, rfl, ij⟩ | ⟨-, ij, c⟩
    · rw [isIn_y hj (by omega), bS, if_neg (by decide)]
      rcases idx_cases y 16 (by decide) with ⟨m, hm, rfl, im⟩ | ⟨-, im, c⟩
      · have eO : opSend z (nI j) (nI m) = if ps.length = 40 then (-1, z) else (nI ps.length, (zA z, zP z, zT z, some (at_, ch, ps ++ [(j, m, [sq (zA z) j / 4], -1)], br))) := by unfold opSend; rw [hr, ij, im]
        rw [isInL_y (show m ≤ 15 by omega) (by decide), bS, if_neg (by decide), r_I hG, bS, R.2.2.2.1, it_eq1 (by omega) (by decide)]
        by_cases c4 : ps.length = 40
        · rw [if_pos c4]
          exact no (by rw [eO, if_pos c4])
        · have hk : ps.length < 40 := by omega
          have hq : sq (zA z) j < 28 := hA.2.2.2.2.1 j hj
          rw [if_neg c4, bS, bS, eO, if_neg c4]
          generalize hn : ps.length = n at hk
          have m5 := M.1.2.2.2.2.2.1 j hj
          rw [cl_add, r_P hG, bS, r_33 hG.si, bS, sI_g hG.si (by decide) (by decide) (show n < 40 from hk), bS, r_34 hG.si.si, bS, sI_g hG.si.si (by decide) (by decide) (show n < 40 from hk), bS, r_36 hG.si.si.si, bS, sI_g hG.si.si.si (by decide) (by decide) (show n < 40 from hk), bS, r_37 hG.si.si.si.si, bS, sI_g hG.si.si.si.si (by decide) (by decide) (show n < 40 from hk), bS, r_35 hG.si.si.si.si.si, bS, r_5 hG.si.si.si.si.si, bS, aI_g hG.si.si.si.si.si (by decide) (by decide) (show j < 6 by omega), bS, si_o (by decide), si_o (by decide), si_o (by decide), si_o (by decide), si_o (by decide), m5, cl_div (by omega) (by decide) (by decide), sI_g hG.si.si.si.si.si (by decide) (by decide) (show n < 40 from hk), bS, r_38 hG.si.si.si.si.si.si, bS, r_35 hG.si.si.si.si.si.si, bS, aI_g hG.si.si.si.si.si.si (by decide) (by decide) (show n < 40 from hk), bS, si_s, cl_mul2, sI_g hG.si.si.si.si.si.si (by decide) (by decide) (show 8 * n < 320 by omega), bS]
          generalize hH : mm_si (mm_si (mm_si (mm_si (mm_si (mm_si (mm_si h 230 31 (nI (n + 1))) 246 n (nI j)) 247 n (nI m)) 249 n (-1)) 250 n 1) 248 n (nI (sq (zA z) j / 4))) 251 (8 * n) (nI (sq (zA z) j / 4)) = H
          have w : ∀ k, k ≠ 31 → mm_I H 230 k = mm_I h 230 k := fun k hk => by rw [← hH, si_o (by decide), si_o (by decide), si_o (by decide), si_o (by decide), si_o (by decide), si_o (by decide), si_o2 hk]
          have e : ∀ a, a ≠ 230 → a < 246 → mm_I H a = mm_I h a := fun a n0 n1 => by rw [← hH, si_c (by omega), si_c (by omega), si_c (by omega), si_c (by omega), si_c (by omega), si_c (by omega), si_c n0]
          have e1 : ∀ i, mm_I H 246 i = if i = n then nI j else mm_I h 246 i := fun i => by
            rw [← hH, si_o (by decide), si_o (by decide), si_o (by decide), si_o (by decide), si_o (by decide)]
            by_cases c : i = n
            · subst c; rw [si_s, if_pos rfl]
            · rw [si_o2 c, si_o (by decide), if_neg c]
          have e2 : ∀ i, mm_I H 247 i = if i = n then nI m else mm_I h 247 i := fun i => by
            rw [← hH, si_o (by decide), si_o (by decide), si_o (by decide), si_o (by decide)]
            by_cases c : i = n
            · subst c; rw [si_s, if_pos rfl]
            · rw [si_o2 c, si_o (by decide), si_o (by decide), if_neg c]
          have e3 : ∀ i, mm_I H 249 i = if i = n then -1 else mm_I h 249 i := fun i => by
            rw [← hH, si_o (by decide), si_o (by decide), si_o (by decide)]
            by_cases c : i = n
            · subst c; rw [si_s, if_pos rfl]
            · rw [si_o2 c, si_o (by decide), si_o (by decide), si_o (by decide), if_neg c]
          have e4 : ∀ i, mm_I H 250 i = if i = n then 1 else mm_I h 250 i := fun i => by
            rw [← hH, si_o (by decide), si_o (by decide)]
            by_cases c : i = n
            · subst c; rw [si_s, if_pos rfl]
            · rw [si_o2 c, si_o (by decide), si_o (by decide), si_o (by decide), si_o (by decide), if_neg c]
          have e5 : ∀ i, mm_I H 248 i = if i = n then nI (sq (zA z) j / 4) else mm_I h 248 i := fun i => by
            rw [← hH, si_o (by decide)]
            by_cases c : i = n
            · subst c; rw [si_s, if_pos rfl]
            · rw [si_o2 c, si_o (by decide), si_o (by decide), si_o (by decide), si_o (by decide), si_o (by decide), if_neg c]
          have e6 : ∀ i, mm_I H 251 i = if i = 8 * n then nI (sq (zA z) j / 4) else mm_I h 251 i := fun i => by
            rw [← hH]
            by_cases c : i = 8 * n
            · subst c; rw [si_s, if_pos rfl]
            · rw [si_o2 c, si_o (by decide), si_o (by decide), si_o (by decide), si_o (by decide), si_o (by decide), si_o (by decide), if_neg c]
          have f31 : mm_I H 230 31 = nI (n + 1) := by rw [← hH, si_o (by decide), si_o (by decide), si_o (by decide), si_o (by decide), si_o (by decide), si_o (by decide), si_s]
          have oM : Only h H MF := by
            rw [← hH]
            exact ((((((si_m (by omega)).tr (si_m (by omega))).tr (si_m (by omega))).tr (si_m (by omega))).tr (si_m (by omega))).tr (si_m (by omega))).tr (si_m (by omega))
          refine ⟨H, rfl, ⟨M.1.cong (fun k hk => w k (by omega)) (fun a _ _ => e a (by omega) (by omega)), M.2.1.cong (w 21 (by decide)) (e 241 (by decide) (by decide)), ?_, ?_, ?_⟩, oM⟩
          · show MP H (zP z)
            have P := M.2.2.1
            unfold MP at P ⊢
            rw [w 24 (by decide), e 243 (by decide) (by decide)]; exact P
          · show MT H (zT z)
            have := M.2.2.2.1
            unfold MT at this ⊢
            rw [w 19 (by decide), w 20 (by decide), e 240 (by decide) (by decide)]; exact this
          · refine ⟨by rw [w 28 (by decide)]; exact R.1, by rw [w 29 (by decide)]; exact R.2.1, by rw [w 30 (by decide)]; exact R.2.2.1, by rw [f31]; simp [hn], by rw [w 32 (by decide)]; exact R.2.2.2.2.1, fun i p hi => ?_⟩
            by_cases ei : i = n
            · rw [List.getElem?_append_right (by omega), ei, hn] at hi
              simp at hi
              subst hi
              refine ⟨by rw [e1, if_pos ei], by rw [e2, if_pos ei], by rw [e3, if_pos ei], by rw [e4, if_pos ei]; rfl, by rw [e5, if_pos ei]; rfl, fun a s ha => ?_⟩
              have ha0 : a = 0 := by
                have := (List.getElem?_eq_some_iff.mp ha).1
                simpa using this
              subst ha0
              simp at ha
              rw [e6, if_pos (by omega), ha]
            · have hlt : i < (ps ++ [(j, m, [sq (zA z) j / 4], (-1 : Int32))]).length := (List.getElem?_eq_some_iff.mp hi).1
              simp [hn] at hlt
              rw [List.getElem?_append_left (by omega)] at hi
              obtain ⟨r1, r2, r3, r4, r5, r6⟩ := R.2.2.2.2.2 i p hi
              have ok := hR.2.2.2.1 p (List.mem_of_getElem? hi)
              refine ⟨by rw [e1, if_neg ei]; exact r1, by rw [e2, if_neg ei]; exact r2, by rw [e3, if_neg ei]; exact r3, by rw [e4, if_neg ei]; exact r4, by rw [e5, if_neg ei]; exact r5, fun a s ha => ?_⟩
              have h7 := ok.2.2.2.1
              have hal := (List.getElem?_eq_some_iff.mp ha).1
              rw [e6, if_neg (by omega)]
              exact r6 a s ha
      · rw [isInL_n (by decide) c, bS, if_pos rfl]
        exact no (by unfold opSend; rw [hr, ij, im])
    · rw [isIn_n (by omega) c, bS, if_pos rfl]
      exact no (by unfold opSend; rw [hr, ij])
end

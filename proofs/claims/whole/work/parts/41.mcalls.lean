/-! ===== the reference's calls: ways, wants, plans ===== -/
section
variable {h : MH} {z : ZS}
theorem told_L {p : List Nat} {e : Int32} (h7 : p.length ≤ 7) (k : MH → Option (Int32 × MH)) :
    ∀ (n f : Nat) (h : MH) (j : Nat), n + j = p.length → n < f → Gr h → Wp h p e → (∀ (i s : Nat), i < j → p[i]? = some s → mm_I h 240 i = nI s) →
      ∃ h', f_X10_way_L60 k 230 f h (nI j) = k h' ∧ Only h h' (fun a => a = 240) ∧ ∀ (i s : Nat), p[i]? = some s → mm_I h' 240 i = nI s := by
  intro n
  induction n with
  | zero =>
    intro f h j hn hf hG Q o
    obtain ⟨f, rfl⟩ : ∃ g, f = g + 1 := ⟨f - 1, by omega⟩
    refine ⟨h, ?_, Only.rf, fun i s hi => o i s (by have := (List.getElem?_eq_some_iff.mp hi).1; omega) hi⟩
    rw [f_X10_way_L60, r_I hG, bS, Q.1, in_le (by omega) (by omega), if_pos (by omega)]
  | succ n ih =>
    intro f h j hn hf hG Q o
    obtain ⟨f, rfl⟩ : ∃ g, f = g + 1 := ⟨f - 1, by omega⟩
    have hj : j < p.length := by omega
    obtain ⟨h2, e2, w2, o2⟩ := ih f (mm_si h 240 j (nI p[j])) (j + 1) (by omega) (by omega) hG.si ⟨by rw [si_o (by decide)]; exact Q.1, by rw [si_o (by decide)]; exact Q.2.1, fun i s hi => by rw [si_o (by decide)]; exact Q.2.2 i s hi⟩ (fun i s hi hs => by
      by_cases ei : i = j
      · subst ei
        rw [si_s]
        rw [List.getElem?_eq_getElem hj] at hs
        cases hs; rfl
      · rw [si_o2 ei]; exact o i s (by omega) hs)
    refine ⟨h2, ?_, (Only.si (P := fun a => a = 240) rfl).tr w2, o2⟩
    rw [f_X10_way_L60, r_I hG, bS, Q.1, in_le (by omega) (by omega), if_neg (by omega), r_12 hG, bS, r_9 hG, bS, path_g hG Q h7 hj, bS, sI_g hG (by decide) (by decide) (show j < 8 by omega), bS, cl_add]
    exact e2
theorem y_way (hz : OkZ z) (hG : Gr h) (M : MX h z) (x y w : Int32) : ∃ h', f_X10_way h 230 x y w = some ((opWay z x y w).1, h') ∧ MX h' (opWay z x y w).2 ∧ Only h h' MF := by
  have hA := hz.1
  have h6 := hA.2.2.1
  have hp := all_pow hA
  unfold f_X10_way
  rw [r_K hG]
  have no : opWay z x y w = (-1, z) → (∃ h', some ((-1 : Int32), h) = some ((opWay z x y w).1, h') ∧ MX h' (opWay z x y w).2 ∧ Only h h' MF) := fun e => by rw [e]; exact ⟨h, rfl, M, Only.rf⟩
  rcases idx_cases x (2 ^ sn (zA z)) (by omega) with ⟨m, hm, rfl, im⟩ | ⟨-, im, c⟩
  · rw [isMix_y hG hA M.1 hm, bS, if_neg (by decide), r_I hG, bS, M.1.2.1]
    rcases idx_cases y (sh (zA z)) (by omega) with ⟨a, ha, rfl, ia⟩ | ⟨-, ia, c⟩
    · rw [isIn_y ha (by omega), bS, if_neg (by decide)]
      rcases idx_cases w 16 (by omega) with ⟨mk, hk, rfl, ik⟩ | ⟨-, ik, c⟩
      · have wo := way_ok hA (mix := m) (m := mk) ha
        obtain ⟨h1, e1, w1, Q1⟩ := walks_eq hG hA M.1 ha (show m < 128 by omega) hk
        have G1 := w1.1.1.Gr hG
        have eO : opWay z (nI m) (nI a) (nI mk) = (nI (wayS (zA z) m a mk).1.length, (zA z, zP z, ((wayS (zA z) m a mk).1, nI (wayS (zA z) m a mk).2), zR2 z)) := by unfold opWay; rw [im, ia, ik]
        rw [isInL_y (show mk ≤ 15 by omega) (by decide), bS, if_neg (by decide), e1, bS, r_I G1, bS, Q1.1, r_P G1, bS, r_I G1.si, bS, si_o2 (by decide), Q1.2.1, r_P G1.si, bS, eO]
        generalize wayS (zA z) m a mk = p at wo Q1
        have Q3 : Wp (mm_si (mm_si h1 230 19 (nI p.1.length)) 230 20 (nI p.2)) p.1 (nI p.2) := ⟨by rw [si_o2 (by decide), si_o2 (by decide)]; exact Q1.1, by rw [si_o2 (by decide), si_o2 (by decide)]; exact Q1.2.1, fun i s hi => by rw [si_o (by decide), si_o (by decide)]; exact Q1.2.2 i s hi⟩
        obtain ⟨h4, e4, o4, t4⟩ := told_L wo.2.1 (fun he89 => (gI he89 230 10 13).bind fun v90 => some (v90, he89)) p.1.length fuel (mm_si (mm_si h1 230 19 (nI p.1.length)) 230 20 (nI p.2)) 0 (by omega) (by unfold fuel; omega) G1.si.si Q3 (fun i s hi => by omega)
        have M1 := w1.1.mx M
        have f0 := o4.2.2.2.2.2 230 (by decide)
        have e0 : ∀ k, k ≠ 19 → k ≠ 20 → mm_I h4 230 k = mm_I h1 230 k := fun k n1 n2 => by rw [f0, si_o2 n2, si_o2 n1]
        have ec : ∀ a, a ≠ 230 → a ≠ 240 → mm_I h4 a = mm_I h1 a := fun a n1 n2 => by rw [o4.2.2.2.2.2 a n2, si_c n1, si_c n1]
        refine ⟨h4, ?_, ⟨M1.1.cong (fun k hk => e0 k (by omega) (by omega)) (fun a _ _ => ec a (by omega) (by omega)), M1.2.1.cong (e0 21 (by decide) (by decide)) (ec 241 (by decide) (by decide)), ?_, ⟨?_, ?_, t4⟩, M1.2.2.2.2.cong (fun k _ _ => e0 k (by omega) (by omega)) (fun a _ _ => ec a (by omega) (by omega))⟩, (w1.1.mf.tr ((Only.si (by unfold MF; omega)).tr (Only.si (by unfold MF; omega)))).tr (o4.mono (fun a q => by unfold MF; omega))⟩
        · refine e4.trans ?_
          rw [r_I (o4.Gr G1.si.si), bS, e0 13 (by decide) (by decide), Q1.1]
        · have := M1.2.2.1
          unfold MP at this ⊢
          rw [e0 24 (by decide) (by decide), ec 243 (by decide) (by decide)]; exact this
        · rw [f0, si_o2 (by decide), si_s]; rfl
        · rw [f0, si_s]; rfl
      · rw [isInL_n (by decide) c, bS, if_pos rfl]
        exact no (by unfold opWay; rw [im, ia, ik])
    · rw [isIn_n (by omega) c, bS, if_pos rfl]
      exact no (by unfold opWay; rw [im, ia])
  · rw [isMix_n hG hA M.1 c, bS, if_pos rfl]
    exact no (by unfold opWay; rw [im])
theorem y_on (hz : OkZ z) (hG : Gr h) (M : MX h z) (x : Int32) : f_X10_on h 230 x = some (opOn z x) := by
  have hT := hz.2.2.2.2.1
  have T := M.2.2.2.1
  have h7 := hT.1
  unfold f_X10_on opOn
  rw [r_K hG]
  by_cases c : x = -1
  · rw [if_pos c, if_pos c, r_I hG, bS, T.2.1]
  · rw [if_neg c, if_neg c, r_I hG, bS, T.1]
    rcases idx_cases x (zT z).1.length (by omega) with ⟨i, hi, rfl, ii⟩ | ⟨-, ii, c⟩
    · rw [isIn_y hi (by omega), bS, if_neg (by decide), r_12 hG, bS, aI_s hG (by decide) (by decide) (show i < 8 by omega) (T.2.2 i _ (getD_some hi)), bS, ii]
    · rw [isIn_n (by omega) c, bS, if_pos rfl, ii]
theorem y_holds (hz : OkZ z) (hG : Gr h) (M : MX h z) (x y : Int32) : ∃ h', f_X10_holds h 230 x y = some (opHolds z x y, h') ∧ MX h' z ∧ Only h h' MF := by
  have hA := hz.1
  have h10 := hA.2.2.2.2.2.2.1
  have hp := all_pow hA
  unfold f_X10_holds
  rw [r_K hG, r_I hG, bS, M.1.2.2.1]
  have no : opHolds z x y = -1 → (∃ h', some ((-1 : Int32), h) = some (opHolds z x y, h') ∧ MX h' z ∧ Only h h' MF) := fun e => by rw [e]; exact ⟨h, rfl, M, Only.rf⟩
  rcases idx_cases x (sw (zA z)) (by omega) with ⟨i, hi, rfl, ii⟩ | ⟨-, ii, c⟩
  · rw [isIn_y hi (by omega), bS, if_neg (by decide)]
    rcases idx_cases y (2 ^ sn (zA z)) (by omega) with ⟨m, hm, rfl, im⟩ | ⟨-, im, c⟩
    · obtain ⟨h1, e1, w1⟩ := breaks_eq hG hA M.1 (mix := m) (i := i) (by omega) hi
      have eO : opHolds z (nI i) (nI m) = if badS (zA z) i m = 16 then 1 else 0 := by unfold opHolds; rw [ii, im]
      rw [isMix_y hG hA M.1 hm, bS, if_neg (by decide), e1, bS, bI_it (badS_le _ _ _), eO]
      refine ⟨h1, ?_, w1.mx M, w1.mf⟩
      split <;> rfl
    · rw [isMix_n hG hA M.1 c, bS, if_pos rfl]
      exact no (by unfold opHolds; rw [ii, im])
  · rw [isIn_n (by omega) c, bS, if_pos rfl]
    exact no (by unfold opHolds; rw [ii])
theorem y_kept (hz : OkZ z) (hG : Gr h) (M : MX h z) (x : Int32) : ∃ h', f_X10_kept h 230 x = some (opKept z x, h') ∧ MX h' z ∧ Only h h' MF := by
  have hA := hz.1
  have h10 := hA.2.2.2.2.2.2.1
  unfold f_X10_kept
  rw [r_K hG, r_I hG, bS, M.1.2.2.1]
  rcases idx_cases x (sw (zA z)) (by omega) with ⟨i, hi, rfl, ii⟩ | ⟨-, ii, c⟩
  · obtain ⟨h1, e1, w1⟩ := keptOne_eq hG hA M.1 hi
    have eO : opKept z (nI i) = b2 (keptS (zA z) i) := by unfold opKept; rw [ii]
    rw [isIn_y hi (by omega), bS, if_neg (by decide), e1, bS, b2_it, eO]
    refine ⟨h1, ?_, w1.mx M, w1.mf⟩
    show _ = some (b2 (keptS (zA z) i), h1)
    cases keptS (zA z) i <;> rfl
  · have eO : opKept z x = -1 := by unfold opKept; rw [ii]
    rw [isIn_n (by omega) c, bS, if_pos rfl, eO]
    exact ⟨h, rfl, M, Only.rf⟩
theorem y_why (hz : OkZ z) (hG : Gr h) (M : MX h z) (x y : Int32) : ∃ h', f_X10_why h 230 x y = some (opWhy z x y, h') ∧ MX h' z ∧ Only h h' MF := by
  have hA := hz.1
  have hp := all_pow hA
  have no : opWhy z x y = -1 → (∃ h', some ((-1 : Int32), h) = some (opWhy z x y, h') ∧ MX h' z ∧ Only h h' MF) := fun e => by rw [e]; exact ⟨h, rfl, M, Only.rf⟩
  rcases idx_cases x (2 ^ sn (zA z)) (by omega) with ⟨m, hm, rfl, im⟩ | ⟨-, im, c⟩
  · rcases idx_cases y 2 (by omega) with ⟨w, hw, rfl, iw⟩ | ⟨-, iw, c⟩
    · obtain ⟨h1, e1, w1⟩ := mWhy_eq hG hA M.1 hm hw
      refine ⟨h1, ?_, w1.mx M, w1.mf⟩
      rw [e1]
      unfold opWhy
      rw [im, iw]
    · unfold f_X10_why
      rw [r_K hG, isMix_y hG hA M.1 hm, bS, if_neg (by decide), isInL_n (by decide) c, bS, if_pos rfl]
      exact no (by unfold opWhy; rw [im, iw])
  · unfold f_X10_why
    rw [r_K hG, isMix_n hG hA M.1 c, bS, if_pos rfl]
    exact no (by unfold opWhy; rw [im])
theorem y_plan (hz : OkZ z) (hG : Gr h) (M : MX h z) (x : Int32) : f_X10_plan h 230 x = some (opPlan z x) := by
  have P := M.2.2.1
  have h7 := P.2.1
  unfold f_X10_plan opPlan
  rw [r_K hG, r_I hG, bS, P.1]
  rcases idx_cases x (zP z).length (by omega) with ⟨i, hi, rfl, ii⟩ | ⟨-, ii, c⟩
  · rw [isIn_y hi (by omega), bS, if_neg (by decide), r_25 hG, bS, aI_s hG (by decide) (by decide) (show i < 7 by omega) (P.2.2 i _ (getD_some hi)), bS, ii]
  · rw [isIn_n (by omega) c, bS, if_pos rfl, ii]
theorem y_mid (hz : OkZ z) (hG : Gr h) (M : MX h z) (x : Int32) : ∃ h', f_X10_mid h 230 x = some (opMid z x, h') ∧ MX h' z ∧ Only h h' MF := by
  have hA := hz.1
  have hP := hz.2.2.2.1
  have P := M.2.2.1
  have h7 := P.2.1
  unfold f_X10_mid
  rw [r_K hG, r_I hG, bS, P.1]
  rcases idx_cases x (zP z).length (by omega) with ⟨i, hi, rfl, ii⟩ | ⟨-, ii, c⟩
  · have tu := take_un hA hP i
    have gu := get_un hA hP hi
    obtain ⟨h1, e1, w1, K1⟩ := against_eq hG hA M.1 M.2.1 tu.1 gu.1 tu.2 gu.2.2 (hP.2.2 i hi)
    have eO : opMid z (nI i) = agI (zA z) (unS ((zP z).take i)) ((zP z).getD i 0) := by unfold opMid; rw [ii]
    rw [isIn_y hi (by omega), bS, if_neg (by decide), planned_eq hG P (by omega), bS, r_25 hG, bS, aI_s hG (by decide) (by decide) (show i < 7 by omega) (P.2.2 i _ (getD_some hi)), bS, e1, bS, eO]
    exact ⟨h1, rfl, w1.lk.mx K1.mk M, w1.lk.mf⟩
  · have eO : opMid z x = -1 := by unfold opMid; rw [ii]
    rw [isIn_n (by omega) c, bS, if_pos rfl, eO]
    exact ⟨h, rfl, M, Only.rf⟩
theorem si_m {h : MH} {a k : Nat} {x : Int32} (ha : 230 ≤ a ∧ a < 252) : Only h (mm_si h a k x) MF := Only.si ha
/-- fields 24 and 28 alone, and the plan -/
theorem MX.plan {h' : MH} {l : List Nat} (M : MX h z) (e0 : ∀ k, k ≠ 24 → k ≠ 28 → mm_I h' 230 k = mm_I h 230 k) (e : ∀ a, a ≠ 230 → a ≠ 243 → mm_I h' a = mm_I h a) (P : MP h' l) (r : mm_I h' 230 28 = 0) : MX h' (zA z, l, zT z, none) := by
  refine ⟨M.1.cong (fun k hk => e0 k (by omega) (by omega)) (fun a _ _ => e a (by omega) (by omega)), M.2.1.cong (e0 21 (by decide) (by decide)) (e 241 (by decide) (by decide)), P, ?_, r⟩
  have := M.2.2.2.1
  unfold MT at this
  show MT h' (zT z)
  unfold MT
  rw [e0 19 (by decide) (by decide), e0 20 (by decide) (by decide), e 240 (by decide) (by decide)]; exact this
theorem y_empty (hG : Gr h) (M : MX h z) : ∃ h', f_X10_empty h 230 = some h' ∧ MX h' (opEmpty z) ∧ Only h h' MF := by
  unfold f_X10_empty
  rw [r_K hG, r_P hG, bS, r_Z0 hG.si, bS]
  exact ⟨_, rfl, M.plan (fun k h1 h2 => by rw [si_o2 h2, si_o2 h1]) (fun a h1 _ => by rw [si_c h1, si_c h1]) ⟨by rw [si_o2 (by decide), si_s]; rfl, by simp, fun i s hi => by simp at hi⟩ (by rw [si_s]), (si_m (by omega)).tr (si_m (by omega))⟩
theorem y_round (hz : OkZ z) (hG : Gr h) (M : MX h z) (x : Int32) : ∃ h', f_X10_round h 230 x = some ((opRound z x).1, h') ∧ MX h' (opRound z x).2 ∧ Only h h' MF := by
  have hA := hz.1
  have hu := unlike_lt hA
  have hP := hz.2.2.2.1
  have P := M.2.2.1
  have h7 := P.2.1
  have au := all_un hA hP
  have no : opRound z x = (-1, z) → (∃ h', some ((-1 : Int32), h) = some ((opRound z x).1, h') ∧ MX h' (opRound z x).2 ∧ Only h h' MF) := fun e => by rw [e]; exact ⟨h, rfl, M, Only.rf⟩
  unfold f_X10_round
  rw [r_K hG, unlikeM_eq hG hA M.1, bS, r_I hG, bS, P.1, planned_eq hG P (Nat.le_refl _), bS, List.take_length]
  rcases idx_cases x 128 (by omega) with ⟨s, hs, rfl, is⟩ | ⟨hno, is, c⟩
  · have eO : opRound z (nI s) = if s = 0 ∨ wi s (unlikeS (zA z)) = false ∨ ¬ unS (zP z) &&& s = 0 then (-1, z) else (nI ((zP z).length + 1), (zA z, zP z ++ [s], zT z, none)) := by unfold opRound; rw [is]
    rw [it_le1 (by omega) (by decide)]
    by_cases c0 : s = 0
    · rw [if_pos (by show s ≤ 0; omega)]
      exact no (by rw [eO, if_pos (Or.inl c0)])
    · rw [if_neg (by show ¬ s ≤ 0; omega)]
      by_cases c1 : wi s (unlikeS (zA z)) = true
      · have hb : s &&& unS (zP z) < 128 := Nat.lt_of_le_of_lt Nat.and_le_left hs
        rw [if_pos ((wi_eq hs hu).mpr c1), nx_and, it_eq1 (by omega) (by decide)]
        by_cases c2 : s &&& unS (zP z) = 0
        · have hd : unS (zP z) &&& s = 0 := by rw [Nat.and_comm]; exact c2
          have hl := rd_room hA hP hs (by omega) hd
          have eO2 : opRound z (nI s) = (nI ((zP z).length + 1), (zA z, zP z ++ [s], zT z, none)) := by rw [eO, if_neg]; rintro (q | q | q); exact c0 q; rw [c1] at q; cases q; exact q hd
          have P0 : MP (mm_si h 230 28 0) (zP z) := by unfold MP at P ⊢; rw [si_o2 (by decide), si_c (by decide)]; exact P
          rw [if_pos c2, r_Z0 hG, bS, r_25 hG.si, bS, r_I hG.si, bS, P0.1, sI_g hG.si (by decide) (by decide) (show (zP z).length < 7 from hl), bS, r_I hG.si.si, bS, si_o (by decide), P0.1, cl_add, r_P hG.si.si, bS, r_I hG.si.si.si, bS, si_s, eO2]
          exact ⟨_, rfl, M.plan (fun k h1 h2 => by rw [si_o2 h1, si_o (by decide), si_o2 h2]) (fun a h1 h2 => by rw [si_c h1, si_c h2, si_c h1]) (P0.add hl) (by rw [si_o2 (by decide), si_o (by decide), si_s]), ((si_m (by omega)).tr (si_m (by omega))).tr (si_m (by omega))⟩
        · rw [if_neg c2]
          exact no (by rw [eO, if_pos (Or.inr (Or.inr (fun q => c2 (by rw [Nat.and_comm]; exact q))))])
      · rw [if_neg (fun q => c1 ((wi_eq hs hu).mp q))]
        exact no (by rw [eO, if_pos (Or.inr (Or.inl (by simpa using c1)))])
  · have e : opRound z x = (-1, z) := by unfold opRound; rw [is]
    by_cases c0 : x ≤ 0
    · rw [if_pos c0]; exact no e
    · rw [if_neg c0, if_neg (fun q => by obtain ⟨j, hj, ej⟩ := sub_mask hu q; exact hno j hj ej)]
      exact no e
theorem y_begin (hG : Gr h) (M : MX h z) : ∃ h', f_X10_begin h 230 = some ((opBegin z).1, h') ∧ MX h' (opBegin z).2 ∧ Only h h' MF := by
  have P := M.2.2.1
  have h7 := P.2.1
  unfold f_X10_begin
  rw [r_K hG, r_I hG, bS, P.1, it_eq1 (by omega) (by decide)]
  by_cases c : (zP z).length = 0
  · have eO : opBegin z = (0, z) := by unfold opBegin; rw [if_pos c]
    rw [if_pos c, eO]
    exact ⟨h, rfl, M, Only.rf⟩
  · have eO : opBegin z = (1, (zA z, zP z, zT z, some (0, 0, [], 0))) := by unfold opBegin; rw [if_neg c]
    rw [if_neg c, r_Z1 hG, bS, r_P hG.si, bS, r_P hG.si.si, bS, r_P hG.si.si.si, bS, r_P hG.si.si.si.si, bS, eO]
    have e0 : ∀ k, k < 28 → mm_I (mm_si (mm_si (mm_si (mm_si (mm_si h 230 28 1) 230 29 0) 230 30 0) 230 31 0) 230 32 0) 230 k = mm_I h 230 k := fun k hk => by rw [si_o2 (by omega), si_o2 (by omega), si_o2 (by omega), si_o2 (by omega), si_o2 (by omega)]
    have e : ∀ a, a ≠ 230 → mm_I (mm_si (mm_si (mm_si (mm_si (mm_si h 230 28 1) 230 29 0) 230 30 0) 230 31 0) 230 32 0) a = mm_I h a := fun a ha => by rw [si_c ha, si_c ha, si_c ha, si_c ha, si_c ha]
    refine ⟨_, rfl, ⟨M.1.cong (fun k hk => e0 k (by omega)) (fun a _ _ => e a (by omega)), M.2.1.cong (e0 21 (by decide)) (e 241 (by decide)), ?_, ?_, ?_, ?_, ?_, ?_, ?_, fun k p hk => by simp at hk⟩, ((((si_m (by omega)).tr (si_m (by omega))).tr (si_m (by omega))).tr (si_m (by omega))).tr (si_m (by omega))⟩
    · show MP _ (zP z)
      unfold MP at P ⊢
      rw [e0 24 (by decide), e 243 (by decide)]; exact P
    · show MT _ (zT z)
      have := M.2.2.2.1
      unfold MT at this ⊢
      rw [e0 19 (by decide), e0 20 (by decide), e 240 (by decide)]; exact this
    · rw [si_o2 (by decide), si_o2 (by decide), si_o2 (by decide), si_o2 (by decide), si_s]
    · rw [si_o2 (by decide), si_o2 (by decide), si_o2 (by decide), si_s]; rfl
    · rw [si_o2 (by decide), si_o2 (by decide), si_s]; rfl
    · rw [si_o2 (by decide), si_s]; rfl
    · rw [si_s]; rfl
end

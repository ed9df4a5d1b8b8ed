/-! ===== the reference's calls: net, link, host, unplug ===== -/
def chH (h : MH) : MH := mm_si (mm_si (mm_si h 230 21 0) 230 24 0) 230 28 0
section
variable {h : MH} {z : ZS} {A : SA}
theorem changed_eq (hG : Gr h) : f_X10_changed h 230 = some (chH h) := by
  unfold f_X10_changed chH
  rw [r_K hG, r_Z0 hG, bS, r_P hG.si, bS, r_Z0 hG.si.si, bS]
theorem Gr.ch (hG : Gr h) : Gr (chH h) := hG
theorem ch_c {a : Nat} (ha : a ≠ 230) : mm_I (chH h) a = mm_I h a := by unfold chH; rw [si_c ha, si_c ha, si_c ha]
theorem ch_f {k : Nat} (h1 : k ≠ 21) (h2 : k ≠ 24) (h3 : k ≠ 28) : mm_I (chH h) 230 k = mm_I h 230 k := by unfold chH; rw [si_o2 h3, si_o2 h2, si_o2 h1]
theorem ch_m : Only h (chH h) MF := ((si_m (by omega)).tr (si_m (by omega))).tr (si_m (by omega))
theorem fresh_mx (M : MS h A) (T : MT h (zT z)) : MX (chH h) (freshZ z A) := by
  refine ⟨M.cong (fun k hk => ch_f (by omega) (by omega) (by omega)) (fun a _ _ => ch_c (by omega)), Or.inl ?_, ⟨?_, by simp [freshZ, zP], fun i s hi => by simp [freshZ, zP] at hi⟩, ?_, ?_⟩
  · unfold chH; rw [si_o2 (by decide), si_o2 (by decide), si_s]
  · unfold chH; rw [si_o2 (by decide), si_s]; rfl
  · show MT (chH h) (zT z)
    unfold MT at T ⊢
    rw [ch_f (by decide) (by decide) (by decide), ch_f (by decide) (by decide) (by decide), ch_c (by decide)]; exact T
  · show mm_I (chH h) 230 28 = 0
    unfold chH; rw [si_s]
/-- what the scene's calls write ahead of 'changed' -/
def Sc (h h' : MH) : Prop := Only h h' (fun a => a = 230 ∨ (230 < a ∧ a < 237)) ∧ ∀ k, 2 < k → mm_I h' 230 k = mm_I h 230 k
theorem Sc.rf : Sc h h := ⟨Only.rf, fun _ _ => rfl⟩
theorem Sc.tr {h1 h2 : MH} (a : Sc h h1) (b : Sc h1 h2) : Sc h h2 := ⟨a.1.tr b.1, fun k hk => (b.2 k hk).trans (a.2 k hk)⟩
theorem Sc.si0 {k : Nat} {x : Int32} (hk : k ≤ 2) : Sc h (mm_si h 230 k x) := ⟨Only.si (Or.inl rfl), fun j hj => by rw [si_o2 (by omega)]⟩
theorem Sc.si {a k : Nat} {x : Int32} (ha : 230 < a ∧ a < 237) : Sc h (mm_si h a k x) := ⟨Only.si (Or.inr ha), fun j hj => by rw [si_o (by omega)]⟩
theorem Sc.of {h' : MH} {P : Nat → Prop} (o : Only h h' P) (hp : ∀ a, P a → 230 < a ∧ a < 237) : Sc h h' := ⟨o.mono (fun a q => Or.inr (hp a q)), fun k _ => by rw [o.2.2.2.2.2 230 (fun q => by have := hp _ q; omega)]⟩
theorem Sc.mt {h' : MH} {t : List Nat × Int32} (w : Sc h h') (T : MT h t) : MT h' t := by
  unfold MT at T ⊢; rw [w.2 19 (by decide), w.2 20 (by decide), w.1.2.2.2.2.2 240 (by omega)]; exact T
theorem Sc.fin {h' : MH} (w : Sc h h') (M : MX h z) (N : MS h' A) : MX (chH h') (freshZ z A) ∧ Only h (chH h') MF := ⟨fresh_mx N (w.mt M.2.2.2.1), (w.1.mono (fun a q => by unfold MF; omega)).tr ch_m⟩
/-- net -/
theorem nt_L17 (k : MH → Option MH) :
    ∀ (n f x : Nat) (h : MH), n + x = 28 → n < f → Gr h → (∀ j, j < x → mm_I h 231 j = 0) → ∃ h', f_X10_clear_L17 k 230 f h (nI x) = k h' ∧ Only h h' (fun a => a = 231) ∧ ∀ j, j < 28 → mm_I h' 231 j = 0 := by
  intro n
  induction n with
  | zero =>
    intro f x h hn hf hG o
    obtain ⟨f, rfl⟩ : ∃ g, f = g + 1 := ⟨f - 1, by omega⟩
    refine ⟨h, ?_, Only.rf, fun j hj => o j (by omega)⟩
    rw [f_X10_clear_L17, it_le2 (by omega) (by decide), if_pos (by omega)]
  | succ n ih =>
    intro f x h hn hf hG o
    obtain ⟨f, rfl⟩ : ∃ g, f = g + 1 := ⟨f - 1, by omega⟩
    obtain ⟨h2, e2, o2, q2⟩ := ih f (x + 1) (mm_si h 231 x 0) (by omega) (by omega) hG.si (fun j hj => by
      by_cases ej : j = x
      · subst ej; rw [si_s]
      · rw [si_o2 ej]; exact o j (by omega))
    refine ⟨h2, ?_, (Only.si (P := fun a => a = 231) rfl).tr o2, q2⟩
    rw [f_X10_clear_L17, it_le2 (by omega) (by decide), if_neg (by omega), r_3 hG, bS, sI_g hG (by decide) (by decide) (show x < 28 by omega), bS, cl_add]
    exact e2
theorem nt_L38 (k : MH → Option MH) :
    ∀ (n f x : Nat) (h : MH), n + x = 14 → n < f → Gr h → (∀ j, j < x → mm_I h 234 j = 0) → ∃ h', f_X10_clear_L38 k 230 f h (nI x) = k h' ∧ Only h h' (fun a => a = 234) ∧ ∀ j, j < 14 → mm_I h' 234 j = 0 := by
  intro n
  induction n with
  | zero =>
    intro f x h hn hf hG o
    obtain ⟨f, rfl⟩ : ∃ g, f = g + 1 := ⟨f - 1, by omega⟩
    refine ⟨h, ?_, Only.rf, fun j hj => o j (by omega)⟩
    rw [f_X10_clear_L38, it_le2 (by omega) (by decide), if_pos (by omega)]
  | succ n ih =>
    intro f x h hn hf hG o
    obtain ⟨f, rfl⟩ : ∃ g, f = g + 1 := ⟨f - 1, by omega⟩
    obtain ⟨h2, e2, o2, q2⟩ := ih f (x + 1) (mm_si h 234 x 0) (by omega) (by omega) hG.si (fun j hj => by
      by_cases ej : j = x
      · subst ej; rw [si_s]
      · rw [si_o2 ej]; exact o j (by omega))
    refine ⟨h2, ?_, (Only.si (P := fun a => a = 234) rfl).tr o2, q2⟩
    rw [f_X10_clear_L38, it_le2 (by omega) (by decide), if_neg (by omega), r_6 hG, bS, sI_g hG (by decide) (by decide) (show x < 14 by omega), bS, cl_add]
    exact e2
theorem clear_eq {n : Nat} (hG : Gr h) (M : MX h z) : ∃ h', f_X10_clear h 230 (nI n) = some h' ∧ MX h' (freshZ z (netA n)) ∧ Only h h' MF := by
  have w0 : Sc h (mm_si (mm_si (mm_si h 230 0 (nI n)) 230 1 0) 230 2 0) := ((Sc.si0 (by omega)).tr (Sc.si0 (by omega))).tr (Sc.si0 (by omega))
  obtain ⟨h1, e1, o1, q1⟩ := nt_L17 (fun he36 => f_X10_clear_L38 (fun he57 => (f_X10_changed he57 230).bind fun h58 => some h58) 230 fuel he36 (0 : Int32)) 28 fuel 0 (mm_si (mm_si (mm_si h 230 0 (nI n)) 230 1 0) 230 2 0) rfl (by decide) hG.si.si.si (fun j hj => by omega)
  have G1 := o1.Gr hG.si.si.si
  obtain ⟨h2, e2, o2, q2⟩ := nt_L38 (fun he57 => (f_X10_changed he57 230).bind fun h58 => some h58) 14 fuel 0 h1 rfl (by decide) G1 (fun j hj => by omega)
  have G2 := o2.Gr G1
  have w2 : Sc h h2 := (w0.tr (Sc.of o1 (fun a q => by omega))).tr (Sc.of o2 (fun a q => by omega))
  have e230 : mm_I h2 230 = mm_I (mm_si (mm_si (mm_si h 230 0 (nI n)) 230 1 0) 230 2 0) 230 := (o2.2.2.2.2.2 230 (by decide)).trans (o1.2.2.2.2.2 230 (by decide))
  have N : MS h2 (netA n) := by
    refine ⟨by rw [e230, si_o2 (by decide), si_o2 (by decide), si_s]; rfl, by rw [e230, si_o2 (by decide), si_s]; rfl, by rw [e230, si_s]; rfl, fun k hk => by rw [o2.2.2.2.2.2 231 (by decide), q1 k hk]; rfl, fun k hk h0 => absurd rfl h0, fun i hi => absurd hi (Nat.not_lt_zero _), fun r hr => by rw [q2 r hr]; rfl, fun r hr i hi => absurd hi (Nat.not_lt_zero _), fun i hi => absurd hi (Nat.not_lt_zero _)⟩
  have fin := w2.fin M N
  refine ⟨chH h2, ?_, fin.1, fin.2⟩
  unfold f_X10_clear
  rw [r_K hG, r_P hG, bS, r_P hG.si, bS, r_P hG.si.si, bS]
  refine e1.trans ?_
  refine e2.trans ?_
  rw [changed_eq G2, bS]
theorem y_net (hG : Gr h) (M : MX h z) (x : Int32) : ∃ h', f_X10_net h 230 x = some ((opNet z x).1, h') ∧ MX h' (opNet z x).2 ∧ Only h h' MF := by
  unfold f_X10_net
  rw [r_K hG]
  have no : opNet z x = (0, z) → (∃ h', some ((0 : Int32), h) = some ((opNet z x).1, h') ∧ MX h' (opNet z x).2 ∧ Only h h' MF) := fun e => by rw [e]; exact ⟨h, rfl, M, Only.rf⟩
  rcases idx_cases x 8 (by omega) with ⟨n, hn, rfl, i⟩ | ⟨-, i, c⟩
  · have ei : f_X10_isIn h (nI n) 1 7 = some (if n = 0 then 0 else 1) := by
      unfold f_X10_isIn
      rw [it_lt1 (by omega) (by decide), it_lt2 (by omega) (by decide)]
      by_cases c : n = 0
      · rw [if_pos (by omega), if_pos c]
      · rw [if_neg (by omega), if_neg (by omega), if_neg c]
    rw [ei, bS]
    by_cases c : n = 0
    · rw [if_pos c, if_pos rfl]
      exact no (by unfold opNet; rw [i]; simp only [c]; rfl)
    · obtain ⟨h1, e1, M1, o1⟩ := clear_eq (n := n) hG M
      have eO : opNet z (nI n) = (1, freshZ z (netA n)) := by unfold opNet; rw [i]; simp only [c]; rfl
      rw [if_neg c, if_neg (by decide), e1, bS, eO]
      exact ⟨h1, rfl, M1, o1⟩
  · have ei : f_X10_isIn h x 1 7 = some 0 := by
      unfold f_X10_isIn
      by_cases c1 : x < 1
      · rw [if_pos c1]
      · rw [if_neg c1]
        have c0 : ¬ x < 0 := fun q => c1 (Int32.lt_trans q (by decide))
        have := pred_lt (n := 8) (by omega) (by decide) (c.resolve_left c0)
        exact if_pos this
    rw [ei, bS, if_pos rfl]
    exact no (by unfold opNet; rw [i])
/-- ports -/
theorem mPort_eq (hG : Gr h) (hA : OkA A) (M : MS h A) (x y : Int32) : (∃ s p, s < sn A ∧ p < 4 ∧ x = nI s ∧ y = nI p ∧ f_X10_isPort h 230 x y = some 1) ∨ ((∀ s p, s < sn A → p < 4 → ¬ (x = nI s ∧ y = nI p)) ∧ f_X10_isPort h 230 x y = some 0) := by
  have h7 := hA.2.1
  unfold f_X10_isPort
  rw [r_K hG, r_I hG, bS, M.1]
  rcases idx_cases x (sn A) (by omega) with ⟨s, hs, rfl, -⟩ | ⟨n, -, c⟩
  · rw [isIn_y hs (by omega), bS, if_neg (by decide)]
    rcases idx_cases y 4 (by omega) with ⟨p, hp, rfl, -⟩ | ⟨n, -, c⟩
    · left
      exact ⟨s, p, hs, hp, rfl, rfl, by rw [isInL_y (show p ≤ 3 by omega) (by decide), bS, if_neg (by decide)]⟩
    · right
      exact ⟨fun s p hs hp q => n p hp q.2, by rw [isInL_n (by decide) c, bS, if_pos rfl]⟩
  · right
    exact ⟨fun s p hs hp q => n s hs q.1, by rw [isIn_n (by omega) c, bS, if_pos rfl]⟩
theorem thr_0 {c : Nat} : thr c = 0 ↔ c = 0 := by
  unfold thr
  by_cases c0 : c = 0
  · simp [c0]
  · rw [if_neg c0]
    constructor
    · intro q; split at q <;> cases q
    · intro q; exact absurd q c0
theorem there_g (hG : Gr h) (M : MS h A) {k : Nat} (hk : k < 28) : aI h 231 (nI k) = some (nI (thr (sp A k))) := aI_s hG (by decide) (by decide) hk (M.2.2.2.1 k hk)
theorem other_g (hG : Gr h) (M : MS h A) {k : Nat} (hk : k < 28) (h0 : sp A k ≠ 0) : aI h 232 (nI k) = some (nI (oth (sp A k))) := aI_s hG (by decide) (by decide) hk (M.2.2.2.2.1 k hk h0)
theorem y_link (hz : OkZ z) (hG : Gr h) (M : MX h z) (a b c d : Int32) : ∃ h', f_X10_link h 230 a b c d = some ((opLink z a b c d).1, h') ∧ MX h' (opLink z a b c d).2 ∧ Only h h' MF := by
  have hA := hz.1
  have h7 := hA.2.1
  have no : (∀ s p t r, s < sn (zA z) → p < 4 → t < sn (zA z) → r < 4 → a = nI s → b = nI p → c = nI t → d = nI r → s = t ∨ sp (zA z) (4 * s + p) ≠ 0 ∨ sp (zA z) (4 * t + r) ≠ 0) → (∃ h', some ((0 : Int32), h) = some ((opLink z a b c d).1, h') ∧ MX h' (opLink z a b c d).2 ∧ Only h h' MF) := fun q => by rw [opLink_no hA q]; exact ⟨h, rfl, M, Only.rf⟩
  unfold f_X10_link
  rw [r_K hG]
  rcases mPort_eq hG hA M.1 a b with ⟨s, p, hs, hp, rfl, rfl, e1⟩ | ⟨n, e1⟩
  · rw [e1, bS, if_neg (by decide)]
    rcases mPort_eq hG hA M.1 c d with ⟨t, r, ht, hr, rfl, rfl, e2⟩ | ⟨n, e2⟩
    · have ij : ∀ {s' p' t' r' : Nat}, s' < sn (zA z) → p' < 4 → t' < sn (zA z) → r' < 4 → nI s = nI s' → nI p = nI p' → nI t = nI t' → nI r = nI r' → s = s' ∧ p = p' ∧ t = t' ∧ r = r' := fun q1 q2 q3 q4 w1 w2 w3 w4 => ⟨nI_inj (by omega) (by omega) w1, nI_inj (by omega) (by omega) w2, nI_inj (by omega) (by omega) w3, nI_inj (by omega) (by omega) w4⟩
      rw [e2, bS, if_neg (by decide), in_eq (by omega) (by omega)]
      by_cases c0 : s = t
      · rw [if_pos c0]
        exact no (fun s' p' t' r' q1 q2 q3 q4 w1 w2 w3 w4 => by obtain ⟨rfl, rfl, rfl, rfl⟩ := ij q1 q2 q3 q4 w1 w2 w3 w4; exact Or.inl c0)
      · have hk : 4 * s + p < 28 := by omega
        have hq : 4 * t + r < 28 := by omega
        rw [if_neg c0, r_3 hG, bS, cl_mul2, nI_add, cl_mul2, nI_add, there_g hG M.1 hk, bS, it_eq1 (thr_lt _) (by decide)]
        by_cases c1 : sp (zA z) (4 * s + p) = 0
        · rw [if_pos (thr_0.mpr c1), bS, there_g hG M.1 hq, bS, it_eq1 (thr_lt _) (by decide)]
          by_cases c2 : sp (zA z) (4 * t + r) = 0
          · have eO : opLink z (nI s) (nI p) (nI t) (nI r) = (1, freshZ z (linkA (zA z) (4 * s + p) (4 * t + r))) := by
              unfold opLink
              rw [idx_nI hs (by omega), idx_nI hp (by omega), idx_nI ht (by omega), idx_nI hr (by omega)]
              show (if _ then _ else _) = _
              rw [if_neg]
              rintro (q | q | q)
              · exact c0 q
              · exact q c1
              · exact q c2
            rw [if_pos (thr_0.mpr c2), bS, eO]
            generalize ek : 4 * s + p = k at hk ⊢
            generalize eq : 4 * t + r = q at hq ⊢
            have hkq : k ≠ q := by omega
            rw [sI_g hG (by decide) (by decide) (show k < 28 from hk), bS, r_4 hG.si, bS, sI_g hG.si (by decide) (by decide) (show k < 28 from hk), bS, r_3 hG.si.si, bS, sI_g hG.si.si (by decide) (by decide) (show q < 28 from hq), bS, r_4 hG.si.si.si, bS, sI_g hG.si.si.si (by decide) (by decide) (show q < 28 from hq), bS, changed_eq hG.si.si.si.si, bS]
            have w : Sc h (mm_si (mm_si (mm_si (mm_si h 231 k 1) 232 k (nI q)) 231 q 1) 232 q (nI k)) := (((Sc.si (by omega)).tr (Sc.si (by omega))).tr (Sc.si (by omega))).tr (Sc.si (by omega))
            have ec : ∀ a, a ≠ 231 → a ≠ 232 → mm_I (mm_si (mm_si (mm_si (mm_si h 231 k 1) 232 k (nI q)) 231 q 1) 232 q (nI k)) a = mm_I h a := fun a n1 n2 => by rw [si_c n2, si_c n1, si_c n2, si_c n1]
            have N : MS (mm_si (mm_si (mm_si (mm_si h 231 k 1) 232 k (nI q)) 231 q 1) 232 q (nI k)) (linkA (zA z) k q) := by
              obtain ⟨m0, m1, m2, m3, m4, m5, m6, m7, m8⟩ := M.1
              refine ⟨by rw [ec 230 (by decide) (by decide)]; exact m0, by rw [ec 230 (by decide) (by decide)]; exact m1, by rw [ec 230 (by decide) (by decide)]; exact m2, fun j hj => ?_, fun j hj h0 => ?_, by rw [ec 233 (by decide) (by decide)]; exact m5, by rw [ec 234 (by decide) (by decide)]; exact m6, by rw [ec 235 (by decide) (by decide)]; exact m7, by rw [ec 236 (by decide) (by decide)]; exact m8⟩
              · show _ = nI (thr (va_up (va_up (sp (zA z)) k (q + 1)) q (k + 1) j))
                rw [si_o (by decide)]
                by_cases j1 : j = q
                · subst j1
                  rw [si_s, va_up_self]; unfold thr; rw [if_neg (by omega), if_pos (by omega)]; rfl
                · rw [si_o2 j1, si_o (by decide), va_up_ne _ _ j1]
                  by_cases j2 : j = k
                  · subst j2
                    rw [si_s, va_up_self]; unfold thr; rw [if_neg (by omega), if_pos (by omega)]; rfl
                  · rw [si_o2 j2, va_up_ne _ _ j2]; exact m3 j hj
              · have h0 : va_up (va_up (sp (zA z)) k (q + 1)) q (k + 1) j ≠ 0 := h0
                show _ = nI (oth (va_up (va_up (sp (zA z)) k (q + 1)) q (k + 1) j))
                by_cases j1 : j = q
                · subst j1
                  rw [si_s, va_up_self]; unfold oth; rw [if_pos (by omega)]; simp
                · rw [va_up_ne _ _ j1] at h0 ⊢
                  rw [si_o2 j1, si_o (by decide)]
                  by_cases j2 : j = k
                  · subst j2
                    rw [si_s, va_up_self]; unfold oth; rw [if_pos (by omega)]; simp
                  · rw [va_up_ne _ _ j2] at h0 ⊢
                    rw [si_o2 j2, si_o (by decide)]; exact m4 j hj h0
            have fin := w.fin M N
            exact ⟨_, rfl, fin.1, fin.2⟩
          · rw [if_neg (fun q => c2 (thr_0.mp q))]
            exact no (fun s' p' t' r' q1 q2 q3 q4 w1 w2 w3 w4 => by obtain ⟨rfl, rfl, rfl, rfl⟩ := ij q1 q2 q3 q4 w1 w2 w3 w4; exact Or.inr (Or.inr c2))
        · rw [if_neg (fun q => c1 (thr_0.mp q))]
          exact no (fun s' p' t' r' q1 q2 q3 q4 w1 w2 w3 w4 => by obtain ⟨rfl, rfl, rfl, rfl⟩ := ij q1 q2 q3 q4 w1 w2 w3 w4; exact Or.inr (Or.inl c1))
    · rw [e2, bS, if_pos rfl]
      exact no (fun s' p' t' r' q1 q2 q3 q4 w1 w2 w3 w4 => absurd ⟨w3, w4⟩ (n t' r' q3 q4))
  · rw [e1, bS, if_pos rfl]
    exact no (fun s' p' t' r' q1 q2 q3 q4 w1 w2 w3 w4 => absurd ⟨w1, w2⟩ (n s' p' q1 q2))
theorem y_host (hz : OkZ z) (hG : Gr h) (M : MX h z) (a b : Int32) : ∃ h', f_X10_host h 230 a b = some ((opHost z a b).1, h') ∧ MX h' (opHost z a b).2 ∧ Only h h' MF := by
  have hA := hz.1
  have h7 := hA.2.1
  have h6 := hA.2.2.1
  have no : (∀ s p, s < sn (zA z) → p < 4 → a = nI s → b = nI p → sp (zA z) (4 * s + p) ≠ 0 ∨ sh (zA z) = 6) → (∃ h', some ((-1 : Int32), h) = some ((opHost z a b).1, h') ∧ MX h' (opHost z a b).2 ∧ Only h h' MF) := fun q => by rw [opHost_no hA q]; exact ⟨h, rfl, M, Only.rf⟩
  unfold f_X10_host
  rw [r_K hG]
  rcases mPort_eq hG hA M.1 a b with ⟨s, p, hs, hp, rfl, rfl, e1⟩ | ⟨n, e1⟩
  · have ij : ∀ {s' p' : Nat}, s' < sn (zA z) → p' < 4 → nI s = nI s' → nI p = nI p' → s = s' ∧ p = p' := fun q1 q2 w1 w2 => ⟨nI_inj (by omega) (by omega) w1, nI_inj (by omega) (by omega) w2⟩
    have hk : 4 * s + p < 28 := by omega
    rw [e1, bS, if_neg (by decide), r_3 hG, bS, cl_mul2, nI_add, there_g hG M.1 hk, bS, it_eq1 (thr_lt _) (by decide)]
    by_cases c1 : sp (zA z) (4 * s + p) = 0
    · rw [if_pos (thr_0.mpr c1), r_I hG, bS, M.1.2.1, it_eq1 (by omega) (by decide)]
      by_cases c2 : sh (zA z) = 6
      · rw [if_pos c2]
        exact no (fun _ _ _ _ _ _ => Or.inr c2)
      · have eO : opHost z (nI s) (nI p) = (nI (sh (zA z)), freshZ z (hostA (zA z) (4 * s + p))) := by
          unfold opHost
          rw [idx_nI hs (by omega), idx_nI hp (by omega)]
          show (if _ then _ else _) = _
          rw [if_neg]
          rintro (q | q)
          · exact q c1
          · exact c2 q
        rw [if_neg c2, bS, eO]
        generalize 4 * s + p = k at hk ⊢
        have m1 := M.1.2.1
        rw [sI_g hG (by decide) (by decide) (show k < 28 from hk), bS, r_4 hG.si, bS, r_I hG.si, bS, si_o (by decide), m1, sI_g hG.si (by decide) (by decide) (show k < 28 from hk), bS, r_5 hG.si.si, bS, r_I hG.si.si, bS, si_o (by decide), si_o (by decide), m1, sI_g hG.si.si (by decide) (by decide) (show sh (zA z) < 6 by omega), bS, r_I hG.si.si.si, bS, si_o (by decide), si_o (by decide), si_o (by decide), m1, cl_add, r_P hG.si.si.si, bS, changed_eq hG.si.si.si.si, bS, r_I hG.si.si.si.si.ch, bS, ch_f (by decide) (by decide) (by decide), si_s, cl_sub (by show 1 ≤ sh (zA z) + 1; omega)]
        have w : Sc h (mm_si (mm_si (mm_si (mm_si h 231 k 2) 232 k (nI (sh (zA z)))) 233 (sh (zA z)) (nI k)) 230 1 (nI (sh (zA z) + 1))) := (((Sc.si (by omega)).tr (Sc.si (by omega))).tr (Sc.si (by omega))).tr (Sc.si0 (by omega))
        have ec : ∀ a, a ≠ 230 → a ≠ 231 → a ≠ 232 → a ≠ 233 → mm_I (mm_si (mm_si (mm_si (mm_si h 231 k 2) 232 k (nI (sh (zA z)))) 233 (sh (zA z)) (nI k)) 230 1 (nI (sh (zA z) + 1))) a = mm_I h a := fun a n0 n1 n2 n3 => by rw [si_c n0, si_c n3, si_c n2, si_c n1]
        have N : MS (mm_si (mm_si (mm_si (mm_si h 231 k 2) 232 k (nI (sh (zA z)))) 233 (sh (zA z)) (nI k)) 230 1 (nI (sh (zA z) + 1))) (hostA (zA z) k) := by
          obtain ⟨m0, m1, m2, m3, m4, m5, m6, m7, m8⟩ := M.1
          refine ⟨by rw [si_o2 (by decide), si_o (by decide), si_o (by decide), si_o (by decide)]; exact m0, by rw [si_s]; rfl, by rw [si_o2 (by decide), si_o (by decide), si_o (by decide), si_o (by decide)]; exact m2, fun j hj => ?_, fun j hj h0 => ?_, fun i hi => ?_, by rw [ec 234 (by decide) (by decide) (by decide) (by decide)]; exact m6, by rw [ec 235 (by decide) (by decide) (by decide) (by decide)]; exact m7, by rw [ec 236 (by decide) (by decide) (by decide) (by decide)]; exact m8⟩
          · show _ = nI (thr (va_up (sp (zA z)) k (100 + sh (zA z)) j))
            rw [si_o (by decide), si_o (by decide), si_o (by decide)]
            by_cases j2 : j = k
            · subst j2
              rw [si_s, va_up_self]; unfold thr; rw [if_neg (by omega), if_neg (by omega)]; rfl
            · rw [si_o2 j2, va_up_ne _ _ j2]; exact m3 j hj
          · have h0 : va_up (sp (zA z)) k (100 + sh (zA z)) j ≠ 0 := h0
            show _ = nI (oth (va_up (sp (zA z)) k (100 + sh (zA z)) j))
            rw [si_o (by decide), si_o (by decide)]
            by_cases j2 : j = k
            · subst j2
              rw [si_s, va_up_self]; unfold oth; rw [if_neg (by omega)]; congr 1; omega
            · rw [va_up_ne _ _ j2] at h0 ⊢
              rw [si_o2 j2, si_o (by decide)]; exact m4 j hj h0
          · have hi : i < sh (zA z) + 1 := hi
            show _ = nI (va_up (sq (zA z)) (sh (zA z)) k i)
            rw [si_o (by decide)]
            by_cases i2 : i = sh (zA z)
            · subst i2
              rw [si_s, va_up_self]
            · rw [si_o2 i2, si_o (by decide), si_o (by decide), va_up_ne _ _ i2]; exact m5 i (by omega)
        have fin := w.fin M N
        exact ⟨_, rfl, fin.1, fin.2⟩
    · rw [if_neg (fun q => c1 (thr_0.mp q))]
      exact no (fun s' p' q1 q2 w1 w2 => by obtain ⟨rfl, rfl⟩ := ij q1 q2 w1 w2; exact Or.inl c1)
  · rw [e1, bS, if_pos rfl]
    exact no (fun s' p' q1 q2 w1 w2 => absurd ⟨w1, w2⟩ (n s' p' q1 q2))
/-- wants of a host -/
theorem mGoal_eq {x : Int32} : f_X10_hasGoal h x = some (b2 (x == 0 || x == 2 || x == 3)) := by
  unfold f_X10_hasGoal
  by_cases c0 : x = 0
  · rw [if_pos c0]; simp [c0, b2]
  · rw [if_neg c0]
    by_cases c2 : x = 2
    · rw [if_pos c2]; simp [c2, b2]
    · rw [if_neg c2]
      by_cases c3 : x = 3
      · rw [if_pos c3]; simp [c3, b2]
      · rw [if_neg c3]; simp [c0, c2, c3, b2]
theorem isOf_eq {i x : Nat} (hG : Gr h) (hA : OkA A) (M : MS h A) (hi : i < sw A) : f_X10_isOf h 230 (nI i) (nI x) = some (b2 (ofH A x i)) := by
  unfold f_X10_isOf ofH
  rw [r_K hG, r_8 hG, bS, cl_mul2, cl_add, want_g hG hA M hi (by decide), bS]
  by_cases c : sx A i 3 = nI x
  · rw [if_pos c]; simp [c, b2]
  · rw [if_neg c, bS, want_0 hG hA M hi, bS, mGoal_eq, bS, b2_it, bS, cl_add, want_g hG hA M hi (by decide), bS]
    have c' : (sx A i 3 == nI x) = false := by simpa using c
    rw [c', Bool.false_or]
    cases hq : (sx A i 0 == 0 || sx A i 0 == 2 || sx A i 0 == 3) with
    | false => rw [if_neg (by decide)]; rfl
    | true =>
      rw [if_pos rfl, Bool.true_and]
      by_cases c4 : sx A i 4 = nI x
      · rw [if_pos c4]; simp [c4, b2]
      · rw [if_neg c4]; simp [c4, b2]
theorem up_L75 (hG : Gr h) (hA : OkA A) (M : MS h A) (h1 : 1 ≤ sh A) {x3 : Int32} (k : Option (Int32 × MH)) :
    ∀ (n f i : Nat), n + i = sw A → n < f → f_X10_unplug_L75 k h 230 x3 f (nI i) = (if anyF (ofH A (sh A - 1)) n i = true then some (0, h) else k)
  | 0, f, i, hn, hf => by
    have h10 := hA.2.2.2.2.2.2.1
    obtain ⟨f, rfl⟩ : ∃ g, f = g + 1 := ⟨f - 1, by omega⟩
    rw [f_X10_unplug_L75, r_I hG, bS, M.2.2.1, in_le (by omega) (by omega), if_pos (by omega), anyF, if_neg (by decide)]
  | n + 1, f, i, hn, hf => by
    have h10 := hA.2.2.2.2.2.2.1
    obtain ⟨f, rfl⟩ : ∃ g, f = g + 1 := ⟨f - 1, by omega⟩
    have ih := up_L75 hG hA M h1 (x3 := x3) k n f (i + 1) (by omega) (by omega)
    rw [f_X10_unplug_L75, r_I hG, bS, M.2.2.1, in_le (by omega) (by omega), if_neg (by omega), r_I hG, bS, M.2.1, cl_sub (by show 1 ≤ sh A; omega), isOf_eq hG hA M (by omega), bS, b2_it, cl_add, anyF]
    cases hq : ofH A (sh A - 1) i with
    | true => rw [if_pos rfl, Bool.true_or, if_pos rfl]
    | false => rw [if_neg (by decide), Bool.false_or]; exact ih
theorem y_unplug (hz : OkZ z) (hG : Gr h) (M : MX h z) (a b : Int32) : ∃ h', f_X10_unplug h 230 a b = some ((opUnplug z a b).1, h') ∧ MX h' (opUnplug z a b).2 ∧ Only h h' MF := by
  have hA := hz.1
  have h7 := hA.2.1
  have h6 := hA.2.2.1
  have hL := hz.2.1
  have h10 := hA.2.2.2.2.2.2.1
  have no : opUnplug z a b = (0, z) → (∃ h', some ((0 : Int32), h) = some ((opUnplug z a b).1, h') ∧ MX h' (opUnplug z a b).2 ∧ Only h h' MF) := fun q => by rw [q]; exact ⟨h, rfl, M, Only.rf⟩
  unfold f_X10_unplug
  rw [r_K hG]
  rcases mPort_eq hG hA M.1 a b with ⟨s, p, hs, hp, rfl, rfl, e1⟩ | ⟨n, e1⟩
  · have hk : 4 * s + p < 28 := by omega
    have eO : opUnplug z (nI s) (nI p) = if sp (zA z) (4 * s + p) = 0 then (0, z) else if sp (zA z) (4 * s + p) < 100 then (1, freshZ z (unlA (zA z) (4 * s + p) (sp (zA z) (4 * s + p) - 1))) else if sp (zA z) (4 * s + p) + 1 = 100 + sh (zA z) ∧ (∀ i, i < sw (zA z) → ofH (zA z) (sh (zA z) - 1) i = false) then (1, freshZ z (unhA (zA z) (4 * s + p))) else (0, z) := by
      unfold opUnplug
      rw [idx_nI hs (by omega), idx_nI hp (by omega)]
    rw [e1, bS, if_neg (by decide), r_3 hG, bS, cl_mul2, nI_add, there_g hG M.1 hk, bS, it_eq1 (thr_lt _) (by decide)]
    generalize 4 * s + p = k at hk eO ⊢
    have ok := hA.2.2.2.1 k hk
    by_cases c0 : sp (zA z) k = 0
    · rw [if_pos (thr_0.mpr c0)]
      exact no (by rw [eO, if_pos c0])
    · rw [if_neg (fun q => c0 (thr_0.mp q)), bS, there_g hG M.1 hk, bS, it_eq1 (thr_lt _) (by decide), r_4 hG, bS]
      by_cases c1 : sp (zA z) k < 100
      · have eO2 : opUnplug z (nI s) (nI p) = (1, freshZ z (unlA (zA z) k (sp (zA z) k - 1))) := by rw [eO, if_neg c0, if_pos c1]
        have hL1 := hL.1 k hk (by unfold isLk; simp; omega)
        rw [if_pos (by unfold thr; rw [if_neg c0, if_pos c1]), bS, other_g hG M.1 hk c0, bS, eO2, show oth (sp (zA z) k) = sp (zA z) k - 1 from if_pos c1]
        generalize eq : sp (zA z) k - 1 = q at hL1 ⊢
        have hq : q < 28 := by omega
        unfold f_X10_unplug_j117
        rw [sI_g hG (by decide) (by decide) (show q < 28 from hq), bS, r_3 hG.si, bS, sI_g hG.si (by decide) (by decide) (show k < 28 from hk), bS, changed_eq hG.si.si, bS]
        have w : Sc h (mm_si (mm_si h 231 q 0) 231 k 0) := (Sc.si (by omega)).tr (Sc.si (by omega))
        have ec : ∀ a, a ≠ 231 → mm_I (mm_si (mm_si h 231 q 0) 231 k 0) a = mm_I h a := fun a n1 => by rw [si_c n1, si_c n1]
        have N : MS (mm_si (mm_si h 231 q 0) 231 k 0) (unlA (zA z) k q) := by
          obtain ⟨m0, m1, m2, m3, m4, m5, m6, m7, m8⟩ := M.1
          refine ⟨by rw [ec 230 (by decide)]; exact m0, by rw [ec 230 (by decide)]; exact m1, by rw [ec 230 (by decide)]; exact m2, fun j hj => ?_, fun j hj h0 => ?_, by rw [ec 233 (by decide)]; exact m5, by rw [ec 234 (by decide)]; exact m6, by rw [ec 235 (by decide)]; exact m7, by rw [ec 236 (by decide)]; exact m8⟩
          · show _ = nI (thr (va_up (va_up (sp (zA z)) q 0) k 0 j))
            by_cases j1 : j = k
            · subst j1
              rw [si_s, va_up_self]; rfl
            · rw [si_o2 j1, va_up_ne _ _ j1]
              by_cases j2 : j = q
              · subst j2
                rw [si_s, va_up_self]; rfl
              · rw [si_o2 j2, va_up_ne _ _ j2]; exact m3 j hj
          · have h0 : va_up (va_up (sp (zA z)) q 0) k 0 j ≠ 0 := h0
            show _ = nI (oth (va_up (va_up (sp (zA z)) q 0) k 0 j))
            rw [ec 232 (by decide)]
            by_cases j1 : j = k
            · subst j1; rw [va_up_self] at h0; exact absurd rfl h0
            · rw [va_up_ne _ _ j1] at h0 ⊢
              by_cases j2 : j = q
              · subst j2; rw [va_up_self] at h0; exact absurd rfl h0
              · rw [va_up_ne _ _ j2] at h0 ⊢
                exact m4 j hj h0
        have fin := w.fin M N
        exact ⟨_, rfl, fin.1, fin.2⟩
      · have hsh : 1 ≤ sh (zA z) := by omega
        rw [if_neg (by unfold thr; rw [if_neg c0, if_neg c1]; decide), bS, other_g hG M.1 hk c0, bS, r_I hG, bS, M.1.2.1, show oth (sp (zA z) k) = sp (zA z) k - 100 from if_neg c1, cl_sub (by show 1 ≤ sh (zA z); omega), in_eq (by omega) (by show sh (zA z) - 1 < _; omega)]
        by_cases c2 : sp (zA z) k - 100 = sh (zA z) - 1
        · rw [if_pos (show sp (zA z) k - 100 = sh (zA z) - OfNat.ofNat 1 from c2), show (0 : Int32) = nI 0 from rfl, up_L75 hG hA M.1 hsh _ (sw (zA z)) fuel 0 (by omega) (by unfold fuel; omega)]
          by_cases c3 : anyF (ofH (zA z) (sh (zA z) - 1)) (sw (zA z)) 0 = true
          · rw [if_pos c3]
            refine no ?_
            rw [eO, if_neg c0, if_neg c1, if_neg]
            rintro ⟨-, q⟩
            obtain ⟨j, -, hj, pj⟩ := (anyF_iff _ _ _).mp c3
            rw [q j (by omega)] at pj
            cases pj
          · have eO2 : opUnplug z (nI s) (nI p) = (1, freshZ z (unhA (zA z) k)) := by
              rw [eO, if_neg c0, if_neg c1, if_pos]
              refine ⟨by omega, fun i hi => ?_⟩
              cases hq : ofH (zA z) (sh (zA z) - 1) i with
              | false => rfl
              | true => exact absurd ((anyF_iff _ _ _).mpr ⟨i, by omega, by omega, hq⟩) c3
            rw [if_neg c3, eO2, bS, cl_sub (by show 1 ≤ sh (zA z); omega), r_P hG, bS]
            unfold f_X10_unplug_j117
            rw [r_3 hG.si, bS, sI_g hG.si (by decide) (by decide) (show k < 28 from hk), bS, changed_eq hG.si.si, bS]
            have w : Sc h (mm_si (mm_si h 230 1 (nI (sh (zA z) - 1))) 231 k (nI 0)) := (Sc.si0 (by omega)).tr (Sc.si (by omega))
            have ec : ∀ a, a ≠ 230 → a ≠ 231 → mm_I (mm_si (mm_si h 230 1 (nI (sh (zA z) - 1))) 231 k (nI 0)) a = mm_I h a := fun a n0 n1 => by rw [si_c n1, si_c n0]
            have N : MS (mm_si (mm_si h 230 1 (nI (sh (zA z) - 1))) 231 k (nI 0)) (unhA (zA z) k) := by
              obtain ⟨m0, m1, m2, m3, m4, m5, m6, m7, m8⟩ := M.1
              refine ⟨by rw [si_o (by decide), si_o2 (by decide)]; exact m0, by rw [si_o (by decide), si_s]; rfl, by rw [si_o (by decide), si_o2 (by decide)]; exact m2, fun j hj => ?_, fun j hj h0 => ?_, fun i hi => ?_, by rw [ec 234 (by decide) (by decide)]; exact m6, by rw [ec 235 (by decide) (by decide)]; exact m7, by rw [ec 236 (by decide) (by decide)]; exact m8⟩
              · show _ = nI (thr (va_up (sp (zA z)) k 0 j))
                by_cases j1 : j = k
                · subst j1
                  rw [si_s, va_up_self]; rfl
                · rw [si_o2 j1, si_o (by decide), va_up_ne _ _ j1]; exact m3 j hj
              · have h0 : va_up (sp (zA z)) k 0 j ≠ 0 := h0
                show _ = nI (oth (va_up (sp (zA z)) k 0 j))
                rw [ec 232 (by decide) (by decide)]
                by_cases j1 : j = k
                · subst j1; rw [va_up_self] at h0; exact absurd rfl h0
                · rw [va_up_ne _ _ j1] at h0 ⊢
                  exact m4 j hj h0
              · have hi : i < sh (zA z) - 1 := hi
                rw [ec 233 (by decide) (by decide)]
                exact m5 i (by omega)
            have fin := w.fin M N
            exact ⟨_, rfl, fin.1, fin.2⟩
        · rw [if_neg (show ¬ sp (zA z) k - 100 = sh (zA z) - OfNat.ofNat 1 from c2)]
          exact no (by rw [eO, if_neg c0, if_neg c1, if_neg (fun q => c2 (by omega))])
  · rw [e1, bS, if_pos rfl]
    refine no ?_
    unfold opUnplug
    rcases idx_cases a (sn (zA z)) (by omega) with ⟨s, hs, rfl, i1⟩ | ⟨-, i1, -⟩
    · rcases idx_cases b 4 (by omega) with ⟨p, hp, rfl, i2⟩ | ⟨-, i2, -⟩
      · exact absurd ⟨rfl, rfl⟩ (n s p hs hp)
      · rw [i1, i2]
    · rw [i1]
end

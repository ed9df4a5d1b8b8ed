/-! ===== what holds of every state is kept by every call ===== -/
/-- broken wants: at most ten for each packet that has ended -/
def OkB (r : Option RN) : Prop := match r with
  | none => True
  | some (_, _, ps, br) => br + 10 * undS ps ≤ 10 * ps.length
def OkV (z : ZS) : Prop := OkZ z ∧ InN (zA z) ∧ OkB (zR2 z)
theorem ok_fresh {z : ZS} {A : SA} (h1 : OkA A) (h2 : OkL A) (h3 : OkW A) (h4 : InN A) (hz : OkV z) : OkV (freshZ z A) :=
  ⟨⟨h1, h2, h3, ⟨by simp [freshZ, zP], fun s hs => by simp [freshZ, zP] at hs, fun i hi => by simp [freshZ, zP] at hi⟩, hz.1.2.2.2.2.1, trivial⟩, h4, trivial⟩
theorem netA_ok {n : Nat} (h1 : 1 ≤ n) (h7 : n ≤ 7) : OkA (netA n) ∧ OkL (netA n) ∧ OkW (netA n) ∧ InN (netA n) := by
  refine ⟨⟨h1, h7, Nat.zero_le _, fun k _ => Or.inl rfl, fun i hi => absurd hi (Nat.not_lt_zero _), fun r _ => ⟨Nat.zero_le _, fun i hi => absurd hi (Nat.not_lt_zero _)⟩, Nat.zero_le _, fun i hi => absurd hi (Nat.not_lt_zero _)⟩, ⟨fun k _ hk => ?_, fun i hi => absurd hi (Nat.not_lt_zero _), fun k _ hk => ?_⟩, fun i hi => absurd hi (Nat.not_lt_zero _), fun k _ h1 _ => ?_, fun i hi => absurd hi (Nat.not_lt_zero _)⟩
  · exact absurd hk (by unfold isLk; show ¬ (decide (1 ≤ 0) && decide (0 ≤ 28)) = true; simp)
  · exact absurd (show 100 ≤ 0 from hk) (by decide)
  · exact absurd (show 1 ≤ 0 from h1) (by decide)
section
variable {A : SA}
theorem isLk_iff {k : Nat} : isLk A k = true ↔ 1 ≤ sp A k ∧ sp A k ≤ 28 := by unfold isLk; simp
theorem linkA_ok {k q : Nat} (hA : OkA A) (hL : OkL A) (hW : OkW A) (hI : InN A) (hk : k < 28) (hq : q < 28) (hkq : k ≠ q) (k0 : sp A k = 0) (q0 : sp A q = 0) (kn : k / 4 < sn A) (qn : q / 4 < sn A) : OkA (linkA A k q) ∧ OkL (linkA A k q) ∧ OkW (linkA A k q) ∧ InN (linkA A k q) := by
  have es : sp (linkA A k q) = va_up (va_up (sp A) k (q + 1)) q (k + 1) := rfl
  have e1 : sp (linkA A k q) q = k + 1 := by rw [es, va_up_self]
  have e2 : sp (linkA A k q) k = q + 1 := by rw [es, va_up_ne _ _ hkq, va_up_self]
  have e3 : ∀ j, j ≠ k → j ≠ q → sp (linkA A k q) j = sp A j := fun j h1 h2 => by rw [es, va_up_ne _ _ h2, va_up_ne _ _ h1]
  obtain ⟨a1, a2, a3, a4, a5, a6, a7, a8⟩ := hA
  obtain ⟨l1, l2, l3⟩ := hL
  refine ⟨⟨a1, a2, a3, fun j hj => ?_, a5, a6, a7, a8⟩, ⟨fun j hj hl => ?_, fun i hi => ?_, fun j hj h1 => ?_⟩, hW, fun j hj h1 h2 => ?_, hI.2⟩
  · by_cases c1 : j = q
    · subst c1; rw [e1]; exact Or.inr (Or.inl (by omega))
    · by_cases c2 : j = k
      · subst c2; rw [e2]; exact Or.inr (Or.inl (by omega))
      · rw [e3 j c2 c1]; exact a4 j hj
  · rw [isLk_iff] at hl
    by_cases c1 : j = q
    · subst c1; rw [e1, Nat.add_sub_cancel, e2]; exact ⟨hkq, rfl⟩
    · by_cases c2 : j = k
      · subst c2; rw [e2, Nat.add_sub_cancel, e1]; exact ⟨fun z => hkq z.symm, rfl⟩
      · rw [e3 j c2 c1] at hl ⊢
        obtain ⟨r1, r2⟩ := l1 j hj (isLk_iff.mpr hl)
        refine ⟨r1, ?_⟩
        rw [e3 (sp A j - 1) (fun z => by rw [z] at r2; omega) (fun z => by rw [z] at r2; omega)]
        exact r2
  · have hi : i < sh A := hi
    have := l2 i hi
    show sp (linkA A k q) (sq A i) = 100 + i
    rw [e3 (sq A i) (fun z => by rw [z] at this; omega) (fun z => by rw [z] at this; omega)]
    exact this
  · show sq A (sp (linkA A k q) j - 100) = j
    by_cases c1 : j = q
    · subst c1; rw [e1] at h1; omega
    · by_cases c2 : j = k
      · subst c2; rw [e2] at h1; omega
      · rw [e3 j c2 c1] at h1 ⊢; exact l3 j hj h1
  · show (sp (linkA A k q) j - 1) / 4 < sn A
    by_cases c1 : j = q
    · subst c1; rw [e1, Nat.add_sub_cancel]; exact kn
    · by_cases c2 : j = k
      · subst c2; rw [e2, Nat.add_sub_cancel]; exact qn
      · rw [e3 j c2 c1] at h1 h2 ⊢; exact hI.1 j hj h1 h2
theorem hostA_ok {k : Nat} (hA : OkA A) (hL : OkL A) (hW : OkW A) (hI : InN A) (hk : k < 28) (k0 : sp A k = 0) (kn : k / 4 < sn A) (h6 : sh A < 6) : OkA (hostA A k) ∧ OkL (hostA A k) ∧ OkW (hostA A k) ∧ InN (hostA A k) := by
  have e1 : sp (hostA A k) k = 100 + sh A := va_up_self _ _ _
  have e3 : ∀ j, j ≠ k → sp (hostA A k) j = sp A j := fun j h1 => va_up_ne _ _ h1
  have q1 : sq (hostA A k) (sh A) = k := va_up_self _ _ _
  have q3 : ∀ j, j ≠ sh A → sq (hostA A k) j = sq A j := fun j h1 => va_up_ne _ _ h1
  obtain ⟨a1, a2, a3, a4, a5, a6, a7, a8⟩ := hA
  obtain ⟨l1, l2, l3⟩ := hL
  refine ⟨⟨a1, a2, show sh A + 1 ≤ 6 by omega, fun j hj => ?_, fun i hi => ?_, a6, a7, fun i hi => ?_⟩, ⟨fun j hj hl => ?_, fun i hi => ?_, fun j hj h1 => ?_⟩, fun i hi h => ?_, fun j hj h1 h2 => ?_, fun i hi => ?_⟩
  · show _ ∨ _ ∨ (_ ∧ _ < 100 + (sh A + 1))
    by_cases c2 : j = k
    · subst c2; rw [e1]; omega
    · rw [e3 j c2]; have := a4 j hj; omega
  · have hi : i < sh A + 1 := hi
    by_cases c : i = sh A
    · rw [c, q1]; exact hk
    · rw [q3 i c]; exact a5 i (by omega)
  · obtain ⟨w1, w2, w3, ⟨a, w4, w5⟩, w6⟩ := a8 i hi
    exact ⟨w1, w2, w3, ⟨a, show a < sh A + 1 by omega, w5⟩, w6⟩
  · rw [isLk_iff] at hl
    by_cases c2 : j = k
    · subst c2; rw [e1] at hl; omega
    · rw [e3 j c2] at hl ⊢
      obtain ⟨r1, r2⟩ := l1 j hj (isLk_iff.mpr hl)
      refine ⟨r1, ?_⟩
      rw [e3 (sp A j - 1) (fun z => by rw [z] at r2; omega)]
      exact r2
  · have hi : i < sh A + 1 := hi
    by_cases c : i = sh A
    · rw [c, q1, e1]
    · rw [q3 i c]
      have := l2 i (by omega)
      rw [e3 (sq A i) (fun z => by rw [z] at this; omega)]
      exact this
  · by_cases c2 : j = k
    · subst c2
      rw [e1, show 100 + sh A - 100 = sh A by omega, q1]
    · rw [e3 j c2] at h1 ⊢
      have := a4 j hj
      rw [q3 _ (by omega)]
      exact l3 j hj h1
  · obtain ⟨b, w1, w2⟩ := hW i hi h
    exact ⟨b, show b < sh A + 1 by omega, w2⟩
  · show (sp (hostA A k) j - 1) / 4 < sn A
    by_cases c2 : j = k
    · subst c2; rw [e1] at h2; omega
    · rw [e3 j c2] at h1 h2 ⊢; exact hI.1 j hj h1 h2
  · have hi : i < sh A + 1 := hi
    show sq (hostA A k) i / 4 < sn A
    by_cases c : i = sh A
    · rw [c, q1]; exact kn
    · rw [q3 i c]; exact hI.2 i (by omega)
theorem unlA_ok {k q : Nat} (hA : OkA A) (hL : OkL A) (hW : OkW A) (hI : InN A) (hk : k < 28) (h1 : 1 ≤ sp A k) (h2 : sp A k ≤ 28) (eq : q = sp A k - 1) : OkA (unlA A k q) ∧ OkL (unlA A k q) ∧ OkW (unlA A k q) ∧ InN (unlA A k q) := by
  have es : sp (unlA A k q) = va_up (va_up (sp A) q 0) k 0 := rfl
  obtain ⟨a1, a2, a3, a4, a5, a6, a7, a8⟩ := hA
  obtain ⟨l1, l2, l3⟩ := hL
  obtain ⟨lk1, lk2⟩ := l1 k hk (isLk_iff.mpr ⟨h1, h2⟩)
  rw [← eq] at lk1 lk2
  have e1 : sp (unlA A k q) k = 0 := by rw [es, va_up_self]
  have e2 : sp (unlA A k q) q = 0 := by rw [es, va_up_ne _ _ lk1, va_up_self]
  have e3 : ∀ j, j ≠ k → j ≠ q → sp (unlA A k q) j = sp A j := fun j h1 h2 => by rw [es, va_up_ne _ _ h1, va_up_ne _ _ h2]
  refine ⟨⟨a1, a2, a3, fun j hj => ?_, a5, a6, a7, a8⟩, ⟨fun j hj hl => ?_, fun i hi => ?_, fun j hj h1 => ?_⟩, hW, fun j hj h1 h2 => ?_, hI.2⟩
  · by_cases c1 : j = k
    · exact Or.inl (by rw [c1, e1])
    · by_cases c2 : j = q
      · exact Or.inl (by rw [c2, e2])
      · rw [e3 j c1 c2]; exact a4 j hj
  · rw [isLk_iff] at hl
    by_cases c1 : j = k
    · rw [c1, e1] at hl; omega
    · by_cases c2 : j = q
      · rw [c2, e2] at hl; omega
      · rw [e3 j c1 c2] at hl ⊢
        obtain ⟨r1, r2⟩ := l1 j hj (isLk_iff.mpr hl)
        refine ⟨r1, ?_⟩
        rw [e3 (sp A j - 1) (fun z => by rw [z] at r2; omega) (fun z => by rw [z] at r2; omega)]
        exact r2
  · have := l2 i hi
    show sp (unlA A k q) (sq A i) = 100 + i
    rw [e3 (sq A i) (fun z => by rw [z] at this; omega) (fun z => by rw [z] at this; omega)]
    exact this
  · show sq A (sp (unlA A k q) j - 100) = j
    by_cases c1 : j = k
    · rw [c1, e1] at h1; omega
    · by_cases c2 : j = q
      · rw [c2, e2] at h1; omega
      · rw [e3 j c1 c2] at h1 ⊢; exact l3 j hj h1
  · show (sp (unlA A k q) j - 1) / 4 < sn A
    by_cases c1 : j = k
    · rw [c1, e1] at h1; omega
    · by_cases c2 : j = q
      · rw [c2, e2] at h1; omega
      · rw [e3 j c1 c2] at h1 h2 ⊢; exact hI.1 j hj h1 h2
theorem unhA_ok {k : Nat} (hA : OkA A) (hL : OkL A) (hW : OkW A) (hI : InN A) (hk : k < 28) (h1 : sp A k + 1 = 100 + sh A) (hs : 1 ≤ sh A) (hn : ∀ i, i < sw A → ofH A (sh A - 1) i = false) : OkA (unhA A k) ∧ OkL (unhA A k) ∧ OkW (unhA A k) ∧ InN (unhA A k) := by
  have e1 : sp (unhA A k) k = 0 := va_up_self _ _ _
  have e3 : ∀ j, j ≠ k → sp (unhA A k) j = sp A j := fun j h1 => va_up_ne _ _ h1
  obtain ⟨a1, a2, a3, a4, a5, a6, a7, a8⟩ := hA
  obtain ⟨l1, l2, l3⟩ := hL
  have lk := l3 k hk (by omega)
  refine ⟨⟨a1, a2, show sh A - 1 ≤ 6 by omega, fun j hj => ?_, fun i hi => ?_, a6, a7, fun i hi => ?_⟩, ⟨fun j hj hl => ?_, fun i hi => ?_, fun j hj h1 => ?_⟩, fun i hi h => ?_, fun j hj h1 h2 => ?_, fun i hi => ?_⟩
  · show _ ∨ _ ∨ (_ ∧ _ < 100 + (sh A - 1))
    by_cases c1 : j = k
    · exact Or.inl (by rw [c1, e1])
    · rw [e3 j c1]
      have := a4 j hj
      by_cases c : sp A j = sp A k
      · exfalso
        have := l3 j hj (by omega)
        rw [c, lk] at this
        exact c1 this.symm
      · omega
  · have hi : i < sh A - 1 := hi
    exact a5 i (by omega)
  · obtain ⟨w1, w2, w3, ⟨a, w4, w5⟩, w6⟩ := a8 i hi
    refine ⟨w1, w2, w3, ⟨a, ?_, w5⟩, w6⟩
    show a < sh A - 1
    have := hn i hi
    unfold ofH at this
    simp only [Bool.or_eq_false_iff] at this
    have hne : sx A i 3 ≠ nI (sh A - 1) := by simpa using this.1
    have hne2 : a ≠ sh A - 1 := fun z => hne (by rw [w5, z])
    omega
  · rw [isLk_iff] at hl
    by_cases c1 : j = k
    · rw [c1, e1] at hl; omega
    · rw [e3 j c1] at hl ⊢
      obtain ⟨r1, r2⟩ := l1 j hj (isLk_iff.mpr hl)
      refine ⟨r1, ?_⟩
      rw [e3 (sp A j - 1) (fun z => by rw [z] at r2; omega)]
      exact r2
  · have hi : i < sh A - 1 := hi
    have := l2 i (by omega)
    show sp (unhA A k) (sq A i) = 100 + i
    rw [e3 (sq A i) (fun z => by rw [z] at this; omega)]
    exact this
  · show sq A (sp (unhA A k) j - 100) = j
    by_cases c1 : j = k
    · rw [c1, e1] at h1; omega
    · rw [e3 j c1] at h1 ⊢; exact l3 j hj h1
  · obtain ⟨b, w1, w2⟩ := hW i hi h
    refine ⟨b, ?_, w2⟩
    show b < sh A - 1
    have h : sx A i 0 = nI 0 ∨ sx A i 0 = nI 2 ∨ sx A i 0 = nI 3 := h
    have := hn i hi
    unfold ofH at this
    simp only [Bool.or_eq_false_iff, Bool.and_eq_false_iff] at this
    have hne : sx A i 4 ≠ nI (sh A - 1) := by
      rcases this.2 with q | q
      · exfalso
        simp at q
        rcases h with w | w | w
        · exact q.1.1 (w.trans rfl)
        · exact q.1.2 (w.trans rfl)
        · exact q.2 (w.trans rfl)
      · simpa using q
    have hne2 : b ≠ sh A - 1 := fun z => hne (by rw [w2, z])
    omega
  · show (sp (unhA A k) j - 1) / 4 < sn A
    by_cases c1 : j = k
    · rw [c1, e1] at h1; omega
    · rw [e3 j c1] at h1 h2 ⊢; exact hI.1 j hj h1 h2
  · have hi : i < sh A - 1 := hi
    exact hI.2 i (by omega)
theorem rowA_ok {r c : Nat} {d : Nat → Nat → Nat} (hA : OkA A) (hL : OkL A) (hW : OkW A) (hI : InN A) (ok : OkD c d) : OkA (rowA A r c d) ∧ OkL (rowA A r c d) ∧ OkW (rowA A r c d) ∧ InN (rowA A r c d) := by
  obtain ⟨a1, a2, a3, a4, a5, a6, a7, a8⟩ := hA
  refine ⟨⟨a1, a2, a3, a4, a5, fun q hq => ?_, a7, a8⟩, hL, hW, hI⟩
  show va_up (sc A) r c q ≤ 6 ∧ ∀ i, i < va_up (sc A) r c q → va_up (sd A) r d q i 0 ≤ 15 ∧ va_up (sd A) r d q i 1 ≤ 15 ∧ va_up (sd A) r d q i 2 ≤ 9 ∧ va_up (sd A) r d q i 3 ≤ 4
  by_cases e : q = r
  · subst e; rw [va_up_self, va_up_self]; exact ok
  · rw [va_up_ne _ _ e, va_up_ne _ _ e]; exact a6 q hq
theorem wantA_ok {x : Nat → Int32} (hA : OkA A) (hL : OkL A) (hW : OkW A) (hI : InN A) (h10 : sw A < 10) (w : (∃ k, k ≤ 4 ∧ x 0 = nI k) ∧ (∃ v, v ≤ 15 ∧ x 1 = nI v) ∧ (∃ v, v ≤ 15 ∧ x 2 = nI v) ∧ (∃ a, a < sh A ∧ x 3 = nI a) ∧ (x 0 = nI 3 → ∃ t, t < 7 ∧ x 5 = nI t)) (g : (x 0 = nI 0 ∨ x 0 = nI 2 ∨ x 0 = nI 3) → ∃ b, b < sh A ∧ x 4 = nI b) : OkA (wantA A x) ∧ OkL (wantA A x) ∧ OkW (wantA A x) ∧ InN (wantA A x) := by
  obtain ⟨a1, a2, a3, a4, a5, a6, a7, a8⟩ := hA
  refine ⟨⟨a1, a2, a3, a4, a5, a6, show sw A + 1 ≤ 10 by omega, fun i hi => ?_⟩, hL, fun i hi => ?_, hI⟩
  · have hi : i < sw A + 1 := hi
    have ex : sx (wantA A x) i = va_up (sx A) (sw A) x i := rfl
    rw [ex]
    by_cases e : i = sw A
    · rw [e, va_up_self]; exact w
    · rw [va_up_ne _ _ e]; exact a8 i (by omega)
  · have hi : i < sw A + 1 := hi
    have ex : sx (wantA A x) i = va_up (sx A) (sw A) x i := rfl
    rw [ex]
    by_cases e : i = sw A
    · rw [e, va_up_self]; exact g
    · rw [va_up_ne _ _ e]; exact hW i (by omega)
theorem unwantA_ok {k : Nat} (hA : OkA A) (hL : OkL A) (hW : OkW A) (hI : InN A) (hk : k < sw A) : OkA (unwantA A k) ∧ OkL (unwantA A k) ∧ OkW (unwantA A k) ∧ InN (unwantA A k) := by
  obtain ⟨a1, a2, a3, a4, a5, a6, a7, a8⟩ := hA
  refine ⟨⟨a1, a2, a3, a4, a5, a6, show sw A - 1 ≤ 10 by omega, fun i hi => ?_⟩, hL, fun i hi => ?_, hI⟩
  · have hi : i < sw A - 1 := hi
    have ex : sx (unwantA A k) i = if i < k then sx A i else sx A (i + 1) := rfl
    rw [ex]
    split
    · exact a8 i (by omega)
    · exact a8 (i + 1) (by omega)
  · have hi : i < sw A - 1 := hi
    have ex : sx (unwantA A k) i = if i < k then sx A i else sx A (i + 1) := rfl
    rw [ex]
    split
    · exact hW i (by omega)
    · exact hW (i + 1) (by omega)
/-- plans -/
theorem un_app (l : List Nat) (s : Nat) : unS (l ++ [s]) = unS l ||| s := by simp [unS, List.foldl_append]
theorem OkP.app {l : List Nat} {s : Nat} (P : OkP A l) (hl : l.length < 7) (h1 : 1 ≤ s) (hw : wi s (unlikeS A) = true) (hd : unS l &&& s = 0) : OkP A (l ++ [s]) := by
  obtain ⟨p1, p2, p3⟩ := P
  refine ⟨by simp; omega, fun t ht => ?_, fun i hi => ?_⟩
  · rcases List.mem_append.mp ht with q | q
    · exact p2 t q
    · simp at q; subst q; exact ⟨h1, hw⟩
  · simp at hi
    by_cases e : i = l.length
    · subst e
      rw [List.take_left, List.getD_eq_getElem?_getD, List.getElem?_append_right (Nat.le_refl _)]
      simpa using hd
    · rw [List.take_append_of_le_length (by omega), List.getD_eq_getElem?_getD, List.getElem?_append_left (by omega), ← List.getD_eq_getElem?_getD]
      exact p3 i (by omega)
theorem OkP.nil : OkP A [] := ⟨by simp, fun s hs => by simp at hs, fun i hi => by simp at hi⟩
theorem pl_ok (hA : OkA A) : ∀ (n : Nat) (l : List Nat) (had : Nat), n + l.length = 7 → OkP A l → unS l = had → had < 128 → TS A had ≤ n → OkP A (l ++ plS A n had)
  | 0, l, had, _, P, _, _, _ => by simpa [plS] using P
  | n + 1, l, had, hn, P, e, hh, ht => by
    rw [plS]
    by_cases c : had = unlikeS A
    · rw [if_pos c]; simpa using P
    · have hu := unlike_lt hA
      have hx := nxS_ok hA hh c (by omega)
      have hw := nx_wi hx.2.2
      rw [if_neg c]
      have := pl_ok hA n (l ++ [nxS A had]) (had ||| nxS A had) (by simp; omega) (P.app (by omega) hx.1 hw.1 (by rw [e]; exact hw.2.1)) (by rw [un_app, e]) (or_lt hh (by omega)) (by omega)
      simpa using this
theorem least_ok (hA : OkA A) (ht : TS A 0 < 99) : OkP A (leastS A) := by
  have := TS_small hA (show 0 < 128 by decide)
  have := pl_ok hA 7 [] 0 rfl OkP.nil rfl (by decide) (by omega)
  simpa [leastS] using this
theorem or_new {a s : Nat} (ha : a < 128) (hs : s < 7) (h : a ||| 2 ^ s ≠ a) : a &&& 2 ^ s = 0 := by
  have q : ∀ a, a < 128 → ∀ s, s < 7 → a ||| 2 ^ s ≠ a → a &&& 2 ^ s = 0 := by decide +kernel
  exact q a ha s hs h
theorem wi_right {a b u : Nat} (h : wi (a ||| b) u = true) : wi b u = true := by
  unfold wi at h ⊢
  rw [beq_iff_eq] at h ⊢
  apply Nat.eq_of_testBit_eq
  intro i
  have := congrArg (fun q => Nat.testBit q i) h
  simp only [Nat.testBit_or, Nat.testBit_and] at this ⊢
  revert this
  cases a.testBit i <;> cases b.testBit i <;> cases u.testBit i <;> simp
theorem ord_ok (hA : OkA A) : ∀ (n : Nat) (l : List Nat) (had r : Nat), n + l.length = 7 → OkP A l → unS l = had → had < 128 → r < OS A had → OkP A (l ++ ordS A n had r)
  | 0, l, had, r, _, P, _, _, _ => by simpa [ordS] using P
  | n + 1, l, had, r, hn, P, e, hh, hr => by
    rw [ordS]
    by_cases c : had = unlikeS A
    · rw [if_pos c]; simpa using P
    · have hb := pick_by hA hh c hr
      rw [if_neg c]
      generalize pick (byS A (OS A) had) 6 0 r = q at hb ⊢
      obtain ⟨s, r'⟩ := q
      simp only at hb ⊢
      have := ord_ok hA n (l ++ [2 ^ s]) (had ||| 2 ^ s) r' (by simp; omega) (P.app (by omega) (Nat.pow_pos (by decide)) (wi_right hb.2.2.1) (by rw [e]; exact or_new hh hb.1 hb.2.2.2.2.2.2)) (by rw [un_app, e]) hb.2.1 hb.2.2.2.1
      simpa using this
end

/-! ===== classes of marks; look ===== -/
def anyF (p : Nat → Bool) : Nat → Nat → Bool
  | 0, _ => false
  | n + 1, i => p i || anyF p n (i + 1)
theorem anyF_iff (p : Nat → Bool) : ∀ n i, anyF p n i = true ↔ ∃ j, i ≤ j ∧ j < i + n ∧ p j = true
  | 0, i => by simp [anyF]; intro j h1 h2; omega
  | n + 1, i => by
    rw [anyF, Bool.or_eq_true, anyF_iff p n (i + 1)]
    constructor
    · rintro (q | ⟨j, h1, h2, h3⟩)
      · exact ⟨i, by omega, by omega, q⟩
      · exact ⟨j, by omega, by omega, h3⟩
    · rintro ⟨j, h1, h2, h3⟩
      by_cases e : j = i
      · subst e; exact Or.inl h3
      · exact Or.inr ⟨j, by omega, by omega, h3⟩
theorem any_range (p : Nat → Bool) (n : Nat) : (List.range n).any p = anyF p n 0 := by
  apply Bool.eq_iff_iff.mpr
  rw [anyF_iff, List.any_eq_true]
  constructor
  · rintro ⟨j, h1, h2⟩; exact ⟨j, by omega, by rw [List.mem_range] at h1; omega, h2⟩
  · rintro ⟨j, h1, h2, h3⟩; exact ⟨j, by rw [List.mem_range]; omega, h3⟩
theorem any_cong {p q : Nat → Bool} : ∀ n i, (∀ j, i ≤ j → j < i + n → p j = q j) → anyF p n i = anyF q n i
  | 0, _, _ => rfl
  | n + 1, i, h => by rw [anyF, anyF, h i (by omega) (by omega), any_cong n (i + 1) (fun j h1 h2 => h j (by omega) (by omega))]
/-- whether rule i of row r tells two marks apart -/
def sepP (A : SA) (m q r i : Nat) : Bool := !(spanB (sd A r i 0) (sd A r i 1) m == spanB (sd A r i 0) (sd A r i 1) q)
def sepR (A : SA) (m q r : Nat) : Bool := anyF (sepP A m q r) (sc A r) 0
theorem sepS_eq (A : SA) (m q : Nat) : sepS A m q = anyF (sepR A m q) 14 0 := by
  unfold sepS
  rw [any_range]
  exact any_cong 14 0 (fun r _ _ => any_range _ _)
section
variable {h : MH} {A : SA}
theorem sep_L (hG : Gr h) (hA : OkA A) (R : RX h A) {m q r : Nat} (hm : m < 16) (hq : q < 16) (hr : r < 14) :
    ∀ (n f i : Nat), n + i = sc A r → n < f → f_X5_separates_L2 (some 0) h (6 + 6 * r) (nI m) (nI q) f (nI i) = some (b2 (anyF (sepP A m q r) n i))
  | 0, f, i, hn, hf => by
    have h6 := (hA.2.2.2.2.2.1 r hr).1
    obtain ⟨f, rfl⟩ : ∃ g, f = g + 1 := ⟨f - 1, by omega⟩
    rw [f_X5_separates_L2, rowSz hG R hr, bS, in_le (by omega) (by omega), if_pos (by omega)]; rfl
  | n + 1, f, i, hn, hf => by
    have h6 := (hA.2.2.2.2.2.1 r hr).1
    obtain ⟨f, rfl⟩ : ∃ g, f = g + 1 := ⟨f - 1, by omega⟩
    have hi : i < sc A r := by omega
    have a0 := rowAt hG hA R hr hi (show 0 < 4 by decide)
    have a1 := rowAt hG hA R hr hi (show 1 < 4 by decide)
    have d := (hA.2.2.2.2.2.1 r hr).2 i hi
    have ih := sep_L hG hA R hm hq hr n f (i + 1) (by omega) (by omega)
    rw [f_X5_separates_L2, rowSz hG R hr, bS, in_le (by omega) (by omega), if_neg (by omega), a0.1, bS, a0.2, bS, a1.1, bS, a1.2, bS, spanHas_eq d.1 d.2.1 hm, bS, bS, a0.2, bS, bS, a1.2, bS, spanHas_eq d.1 d.2.1 hq, bS, anyF, cl_add]
    unfold sepP
    by_cases c1 : spanB (sd A r i 0) (sd A r i 1) m = true
    · by_cases c2 : spanB (sd A r i 0) (sd A r i 1) q = true
      · rw [if_pos c1, if_pos c2, if_pos rfl, ih, c1, c2]; rfl
      · have c2 : spanB (sd A r i 0) (sd A r i 1) q = false := by simpa using c2
        rw [c1, c2]; rfl
    · have c1 : spanB (sd A r i 0) (sd A r i 1) m = false := by simpa using c1
      by_cases c2 : spanB (sd A r i 0) (sd A r i 1) q = true
      · rw [c1, c2]; rfl
      · have c2 : spanB (sd A r i 0) (sd A r i 1) q = false := by simpa using c2
        rw [c1, c2, if_pos rfl, ih]; rfl
theorem separates_eq (hG : Gr h) (hA : OkA A) (R : RX h A) {m q r : Nat} (hm : m < 16) (hq : q < 16) (hr : r < 14) : f_X5_separates h (6 + 6 * r) (nI m) (nI q) = some (b2 (sepR A m q r)) := by
  have h6 := (hA.2.2.2.2.2.1 r hr).1
  unfold f_X5_separates
  rw [gK_g hG (by omega) (gk_row hr)]
  exact sep_L hG hA R hm hq hr (sc A r) fuel 0 (by omega) (by unfold fuel; omega)
theorem isSep_L (hG : Gr h) (hA : OkA A) (R : RX h A) {m q : Nat} (hm : m < 16) (hq : q < 16) :
    ∀ (n f r : Nat), n + r = 14 → n < f → f_X1_isSeparated_L2 (some 0) h 1 (nI m) (nI q) f (nI r) = some (b2 (anyF (sepR A m q) n r))
  | 0, f, r, hn, hf => by
    obtain ⟨f, rfl⟩ : ∃ g, f = g + 1 := ⟨f - 1, by omega⟩
    rw [f_X1_isSeparated_L2, it_le2 (by omega) (by decide), if_pos (by omega)]; rfl
  | n + 1, f, r, hn, hf => by
    obtain ⟨f, rfl⟩ : ∃ g, f = g + 1 := ⟨f - 1, by omega⟩
    have ih := isSep_L hG hA R hm hq n f (r + 1) (by omega) (by omega)
    rw [f_X1_isSeparated_L2, it_le2 (by omega) (by decide), if_neg (by omega), gR_g hG (by decide) (by decide) (show gr 1 2 = some 4 from rfl), bS, aR_g hG (by decide) (by decide) (show r < 14 by omega) (hG.2.2.2 4 _ _ (by decide) (gr_rows (by omega))), bS, separates_eq hG hA R hm hq (by omega), bS, b2_it, cl_add, ih, anyF]
    cases sepR A m q r <;> rfl
theorem isSep_eq (hG : Gr h) (hA : OkA A) (R : RX h A) {m q : Nat} (hm : m < 16) (hq : q < 16) : f_X1_isSeparated h 1 (nI m) (nI q) = some (b2 (sepS A m q)) := by
  unfold f_X1_isSeparated
  rw [gK_g hG (by decide) (by decide), sepS_eq]
  exact isSep_L hG hA R hm hq 14 fuel 0 rfl (by decide)
theorem la_L (hG : Gr h) (hA : OkA A) (R : RX h A) {m : Nat} (hm : m < 16) :
    ∀ (n f q : Nat), n + q = m → n < f → f_X1_leastAlike_L2 (some (nI m)) h 1 (nI m) f (nI q) = some (nI (lst (fun q => !(sepS A m q)) n q))
  | 0, f, q, hn, hf => by
    obtain ⟨f, rfl⟩ : ∃ g, f = g + 1 := ⟨f - 1, by omega⟩
    rw [f_X1_leastAlike_L2, in_le (by omega) (by omega), if_pos (by omega), lst, show q = m by omega]
  | n + 1, f, q, hn, hf => by
    obtain ⟨f, rfl⟩ : ∃ g, f = g + 1 := ⟨f - 1, by omega⟩
    have ih := la_L hG hA R hm n f (q + 1) (by omega) (by omega)
    rw [f_X1_leastAlike_L2, in_le (by omega) (by omega), if_neg (by omega), isSep_eq hG hA R hm (by omega), bS, b2_it, cl_add, ih, lst]
    cases sepS A m q <;> rfl
theorem leastAlike_eq (hG : Gr h) (hA : OkA A) (R : RX h A) {m : Nat} (hm : m < 16) : f_X1_leastAlike h 1 (nI m) = some (nI (likS A m)) := by
  unfold f_X1_leastAlike
  rw [gK_g hG (by decide) (by decide)]
  exact la_L hG hA R hm m fuel 0 (by omega) (by unfold fuel; omega)
theorem lik_le (A : SA) (m : Nat) : likS A m ≤ m := by
  have := (lst_le (fun q => !(sepS A m q)) m 0).2
  unfold likS; omega
theorem RX.c15 {h h' : MH} {A : SA} (R : RX h A) (o : Only h h' (fun a => a = 1 ∨ a = 5)) (e6 : mm_I h' 1 6 = mm_I h 1 6) (e7 : mm_I h' 1 7 = mm_I h 1 7) : RX h' A := by
  obtain ⟨o1, o2, o3, o4, o5, o6⟩ := o
  obtain ⟨⟨n1, n2, n3, n4⟩, r, w1, w2⟩ := R
  refine ⟨⟨by rw [e6]; exact n1, by rw [e7]; exact n2, fun k hk => by rw [o6 2 (by decide)]; exact n3 k hk, fun i hi => by rw [o6 3 (by decide)]; exact n4 i hi⟩, fun q hq => ?_, by rw [o6 90 (by decide)]; exact w1, fun i hi => ?_⟩
  · obtain ⟨r1, r2, r3⟩ := r q hq
    exact ⟨by rw [o6 _ (by omega)]; exact r1, fun i hi j hj => by rw [o6 _ (by omega)]; exact r2 i hi j hj, fun m hm => by rw [o6 _ (by omega)]; exact r3 m hm⟩
  · obtain ⟨o, p1, p2, p3, p4, p5⟩ := w2 i hi
    exact ⟨o, by rw [o3]; exact p1, by rw [o4]; exact p2, by rw [o1]; exact p3, fun j hj => by rw [o6 o (by omega)]; exact p4 j hj, p5⟩
theorem fc_L (hA : OkA A) (k : MH → Option MH) :
    ∀ (n f : Nat) (h : MH) (m : Nat), n + m = 16 → n < f → Gr h → RX h A → mm_I h 1 5 = nI (clsS A m).1 → (∀ q, q < m → mm_I h 5 q = nI ((clsS A m).2 q)) →
      ∃ h', f_X1_findClasses_L15 k 1 f h (nI m) = k h' ∧ Only h h' (fun a => a = 1 ∨ a = 5) ∧ (∀ j, j ≠ 5 → mm_I h' 1 j = mm_I h 1 j) ∧ mm_I h' 1 5 = nI (clsS A 16).1 ∧ (∀ q, q < 16 → mm_I h' 5 q = nI ((clsS A 16).2 q))
  | 0, f, h, m, hn, hf, hG, R, c1, c2 => by
    obtain ⟨f, rfl⟩ : ∃ g, f = g + 1 := ⟨f - 1, by omega⟩
    have em : m = 16 := by omega
    subst em
    refine ⟨h, ?_, Only.rf, fun _ _ => rfl, c1, c2⟩
    rw [f_X1_findClasses_L15, it_le2 (by omega) (by decide), if_pos (by omega)]
  | n + 1, f, h, m, hn, hf, hG, R, c1, c2 => by
    obtain ⟨f, rfl⟩ : ∃ g, f = g + 1 := ⟨f - 1, by omega⟩
    have hl := lik_le A m
    rw [f_X1_findClasses_L15, it_le2 (by omega) (by decide), if_neg (by omega), leastAlike_eq hG hA R (by omega), bS, in_eq (by omega) (by omega)]
    by_cases c : likS A m = m
    · have o1 : Only h (mm_si (mm_si h 5 m (nI (clsS A m).1)) 1 5 (nI ((clsS A m).1 + 1))) (fun a => a = 1 ∨ a = 5) := (Only.si (P := fun a => a = 1 ∨ a = 5) (Or.inr rfl)).tr (Only.si (Or.inl rfl))
      have ec : clsS A (m + 1) = ((clsS A m).1 + 1, va_up (clsS A m).2 m (clsS A m).1) := by rw [clsS, if_pos c]
      have f1 : ∀ j, j ≠ 5 → mm_I (mm_si (mm_si h 5 m (nI (clsS A m).1)) 1 5 (nI ((clsS A m).1 + 1))) 1 j = mm_I h 1 j := fun j hj => by rw [si_o2 hj, si_o (by decide)]
      obtain ⟨h2, e2, o2, f2, d1, d2⟩ := fc_L hA k n f (mm_si (mm_si h 5 m (nI (clsS A m).1)) 1 5 (nI ((clsS A m).1 + 1))) (m + 1) (by omega) (by omega) hG.si.si (R.c15 o1 (f1 6 (by decide)) (f1 7 (by decide))) (by rw [si_s, ec]) (fun q hq => by
        rw [si_o (by decide), ec]
        show _ = nI (va_up (clsS A m).2 m (clsS A m).1 q)
        by_cases e : q = m
        · subst e; rw [si_s, va_up_self]
        · rw [si_o2 e, va_up_ne _ _ e]; exact c2 q (by omega))
      refine ⟨h2, ?_, o1.tr o2, fun j hj => (f2 j hj).trans (f1 j hj), d1, d2⟩
      rw [if_pos c, gR_g hG (by decide) (by decide) (show gr 1 3 = some 5 from rfl), bS, gI_g hG (by decide) (by decide), bS, c1, sI_g hG (by decide) (by decide) (show m < 16 by omega), bS, gI_g hG.si (by decide) (by decide), bS, si_o (by decide), c1, cl_add, pI_g hG.si (by decide) (by decide), bS, cl_add]
      exact e2
    · have o1 : Only h (mm_si h 5 m (nI ((clsS A m).2 (likS A m)))) (fun a => a = 1 ∨ a = 5) := Only.si (Or.inr rfl)
      have ec : clsS A (m + 1) = ((clsS A m).1, va_up (clsS A m).2 m ((clsS A m).2 (likS A m))) := by rw [clsS, if_neg c]
      have f1 : ∀ j, mm_I (mm_si h 5 m (nI ((clsS A m).2 (likS A m)))) 1 j = mm_I h 1 j := fun j => by rw [si_o (by decide)]
      obtain ⟨h2, e2, o2, f2, d1, d2⟩ := fc_L hA k n f (mm_si h 5 m (nI ((clsS A m).2 (likS A m)))) (m + 1) (by omega) (by omega) hG.si (R.c15 o1 (f1 6) (f1 7)) (by rw [f1, ec]; exact c1) (fun q hq => by
        rw [ec]
        show _ = nI (va_up (clsS A m).2 m ((clsS A m).2 (likS A m)) q)
        by_cases e : q = m
        · subst e; rw [si_s, va_up_self]
        · rw [si_o2 e, va_up_ne _ _ e]; exact c2 q (by omega))
      refine ⟨h2, ?_, o1.tr o2, fun j hj => (f2 j hj).trans (f1 j), d1, d2⟩
      rw [if_neg c, gR_g hG (by decide) (by decide) (show gr 1 3 = some 5 from rfl), bS, bS, aI_g hG (by decide) (by decide) (show likS A m < 16 by omega), bS, c2 _ (by omega), sI_g hG (by decide) (by decide) (show m < 16 by omega), bS, cl_add]
      exact e2
theorem findClasses_eq (hG : Gr h) (hA : OkA A) (R : RX h A) (C : Cl h A) : ∃ h', f_X1_findClasses h 1 = some h' ∧ Only h h' (fun a => a = 1 ∨ a = 5) ∧ (∀ j, j ≠ 4 → j ≠ 5 → mm_I h' 1 j = mm_I h 1 j) ∧ (mm_I h' 1 4 = 1 ∧ mm_I h' 1 5 = nI (clsS A 16).1 ∧ ∀ m, m < 16 → mm_I h' 5 m = nI ((clsS A 16).2 m)) := by
  unfold f_X1_findClasses
  repeat (first | rw [gK_g hG (by decide) (by decide)] | rw [gI_g hG (by decide) (by decide)] | rw [gR_g hG (by decide) (by decide) (by rfl)] | rw [bS])
  rcases C with c | c
  · rw [c, if_pos rfl, pI_g hG (by decide) (by decide), bS]
    obtain ⟨h2, e2, o2, f2, d1, d2⟩ := fc_L hA (fun he73 => (pZ he73 1 1 4 (1 : Int32)).bind fun h75 => some h75) 16 fuel (mm_si h 1 5 0) 0 rfl (by decide) hG.si (RX.si1 (by decide) (by decide) R) (by rw [si_s]; rfl) (fun q hq => by omega)
    have G2 := o2.Gr hG.si
    refine ⟨mm_si h2 1 4 1, ?_, ((Only.si (P := fun a => a = 1 ∨ a = 5) (Or.inl rfl)).tr o2).tr (Only.si (Or.inl rfl)), fun j h4 h5 => by rw [si_o2 h4, f2 j h5, si_o2 h5], by rw [si_s], by rw [si_o2 (by decide)]; exact d1, fun m hm => by rw [si_o (by decide)]; exact d2 m hm⟩
    refine e2.trans ?_
    rw [pZ_g G2 (by decide) (by decide) (Or.inr rfl), bS]
  · rw [c.1, if_neg (by decide)]
    exact ⟨h, rfl, Only.rf, fun _ _ _ => rfl, c⟩
end
section
variable {h : MH} {z : ZS}
theorem CX.cls {h' : MH} (hz : OkZ z) (C : CX h z) (o : Only h h' (fun a => a = 1 ∨ a = 5)) (f : ∀ j, j ≠ 4 → j ≠ 5 → mm_I h' 1 j = mm_I h 1 j) (d : mm_I h' 1 4 = 1 ∧ mm_I h' 1 5 = nI (clsS (zA z) 16).1 ∧ ∀ m, m < 16 → mm_I h' 5 m = nI ((clsS (zA z) 16).2 m)) : CX h' z := by
  obtain ⟨hG, J, -, L, P, W, RR⟩ := C
  refine ⟨o.Gr hG, ⟨J.1.c15 o (f 6 (by decide) (by decide)) (f 7 (by decide) (by decide)), ?_, ?_⟩, Or.inr d, by rw [f 8 (by decide) (by decide)]; exact L, P.only o (by decide) (by decide), W.only o (by decide) (by decide), RunIs.only hz.2.2.2.2.2 o (by decide) (fun a h1 h2 => by omega) RR⟩
  · have K := J.2.1; unfold Kp at K ⊢; rw [o.2.2.2.2.2 90 (by decide), o.2.2.2.2.2 92 (by decide)]; exact K
  · have D := J.2.2; unfold Gd at D ⊢; rw [o.2.2.2.2.2 90 (by decide), o.2.2.2.2.2 93 (by decide)]; exact D
theorem x_class (hz : OkZ z) (C : CX h z) (x : Int32) : ∃ h', f_X9_ofClass h 0 x = some (opClass z x, h') ∧ CX h' z ∧ CF h h' := by
  have hG := C.1
  unfold f_X9_ofClass f_X1_classOf opClass
  repeat (first | rw [gK_g hG (by decide) (by decide)] | rw [gI_g hG (by decide) (by decide)] | rw [gR_g hG (by decide) (by decide) (by rfl)] | rw [bS])
  rcases idx_cases x 16 (by decide) with ⟨m, hm, rfl, im⟩ | ⟨-, im, c⟩
  · obtain ⟨h1, e1, o1, f1, d1⟩ := findClasses_eq hG hz.1 C.2.1.1 C.2.2.1
    have G1 := o1.Gr hG
    rw [im, isMark_y hm, bS, if_neg (by decide), e1, bS]
    repeat (first | rw [gK_g G1 (by decide) (by decide)] | rw [gI_g G1 (by decide) (by decide)] | rw [gR_g G1 (by decide) (by decide) (by rfl)] | rw [bS])
    rw [aI_g G1 (by decide) (by decide) (show m < 16 by omega), bS, bS, d1.2.2 m hm]
    exact ⟨h1, rfl, C.cls hz o1 f1 d1, CF.of o1 (fun a q => by omega)⟩
  · rw [im, isMark_n c, bS, if_pos rfl, bS]
    exact ⟨h, rfl, C, CF.rf⟩
theorem rc_L {A : SA} (hG : Gr h) (hA : OkA A) (R : RX h A) (k : Int32 → Option Int32) :
    ∀ (n f r : Nat), n + r = 14 → n < f → f_X1_ruleCount_L4 k h 1 f (nI (smS (sc A) r)) (nI r) = k (nI (smS (sc A) 14))
  | 0, f, r, hn, hf => by
    obtain ⟨f, rfl⟩ : ∃ g, f = g + 1 := ⟨f - 1, by omega⟩
    rw [f_X1_ruleCount_L4, it_le2 (by omega) (by decide), if_pos (by omega), show r = 14 by omega]
  | n + 1, f, r, hn, hf => by
    obtain ⟨f, rfl⟩ : ∃ g, f = g + 1 := ⟨f - 1, by omega⟩
    have ih := rc_L hG hA R k n f (r + 1) (by omega) (by omega)
    rw [smS] at ih
    rw [f_X1_ruleCount_L4, it_le2 (by omega) (by decide), if_neg (by omega), gR_g hG (by decide) (by decide) (show gr 1 2 = some 4 from rfl), bS, aR_g hG (by decide) (by decide) (show r < 14 by omega) (hG.2.2.2 4 _ _ (by decide) (gr_rows (by omega))), bS, sizeR_eq (d := sd A r) hG (by omega) ⟨(R.2.1 r (by omega)).1, (R.2.1 r (by omega)).2.1⟩, bS, nI_add, cl_add]
    exact ih
theorem x_look (hz : OkZ z) (C : CX h z) (x : Int32) : ∃ h', f_X9_look h 0 x = some (opLook z x, h') ∧ CX h' z ∧ CF h h' := by
  have C0 := C
  obtain ⟨hG, J, L, N, P, W, RR⟩ := C
  have R := J.1
  have hA := hz.1
  have hP := hz.2.2.2.1
  have hu := unlike_lt hA
  have hn := all_un hA hP
  unfold f_X9_look opLook f_X1_switchCount f_X1_hostCount f_X1_linkCount f_X1_ruleCount f_X0_wantCount f_X1_classCount
  repeat (first | rw [gK_g hG (by decide) (by decide)] | rw [gI_g hG (by decide) (by decide)] | rw [gR_g hG (by decide) (by decide) (by rfl)] | rw [bS])
  by_cases c0 : x = 0
  · rw [if_pos c0, if_pos c0, R.1.1]; exact ⟨h, rfl, C0, CF.rf⟩
  · rw [if_neg c0, if_neg c0]
    by_cases c1 : x = 1
    · rw [if_pos c1, if_pos c1, R.1.2.1]; exact ⟨h, rfl, C0, CF.rf⟩
    · rw [if_neg c1, if_neg c1]
      by_cases c2 : x = 2
      · rw [if_pos c2, if_pos c2, N]; exact ⟨h, rfl, C0, CF.rf⟩
      · rw [if_neg c2, if_neg c2]
        by_cases c3 : x = 3
        · rw [if_pos c3, if_pos c3]
          refine ⟨h, ?_, C0, CF.rf⟩
          have := rc_L hG hA R (fun x1e28 => some x1e28) 14 fuel 0 rfl (by decide)
          rw [show (0 : Int32) = nI (smS (sc (zA z)) 0) from rfl]
          rw [show f_X1_ruleCount_L4 (fun x1e28 => some x1e28) h 1 fuel (nI (smS (sc (zA z)) 0)) (nI (smS (sc (zA z)) 0)) = some (nI (smS (sc (zA z)) 14)) from this, bS]
        · rw [if_neg c3, if_neg c3]
          by_cases c4 : x = 4
          · rw [if_pos c4, if_pos c4, R.2.2.1]; exact ⟨h, rfl, C0, CF.rf⟩
          · rw [if_neg c4, if_neg c4]
            by_cases c5 : x = 5
            · rw [if_pos c5, if_pos c5, unlikeX_eq hG hA R, bS]; exact ⟨h, rfl, C0, CF.rf⟩
            · rw [if_neg c5, if_neg c5]
              by_cases c6 : x = 6
              · obtain ⟨h1, e1, o1, f1, d1⟩ := findClasses_eq hG hA R L
                have G1 := o1.Gr hG
                rw [if_pos c6, if_pos c6, e1, bS]
                repeat (first | rw [gK_g G1 (by decide) (by decide)] | rw [gI_g G1 (by decide) (by decide)] | rw [gR_g G1 (by decide) (by decide) (by rfl)] | rw [bS])
                rw [d1.2.1]
                exact ⟨h1, rfl, C0.cls hz o1 f1 d1, CF.of o1 (fun a q => by omega)⟩
              · rw [if_neg c6, if_neg c6]
                by_cases c7 : x = 7
                · obtain ⟨h1, e1, o1, J1⟩ := countGood_eq hG hA J
                  rw [if_pos c7, if_pos c7, e1, bS]
                  exact ⟨h1, rfl, CX.keep hz C0 o1 pns_jf J1, CF.of o1 pns_lt⟩
                · rw [if_neg c7, if_neg c7]
                  by_cases c8 : x = 8
                  · rw [if_pos c8, if_pos c8, sizeP_eq hG P, bS]; exact ⟨h, rfl, C0, CF.rf⟩
                  · rw [if_neg c8, if_neg c8]
                    by_cases c9 : x = 9
                    · rw [if_pos c9, if_pos c9, members_eq hG P, bS]
                      repeat (first | rw [gK_g hG (by decide) (by decide)] | rw [gI_g hG (by decide) (by decide)] | rw [gR_g hG (by decide) (by decide) (by rfl)] | rw [bS])
                      rw [unlikeX_eq hG hA R, bS, in_eq (by omega) (by omega)]
                      refine ⟨h, ?_, C0, CF.rf⟩
                      split <;> rfl
                    · rw [if_neg c9, if_neg c9]; exact ⟨h, rfl, C0, CF.rf⟩
end

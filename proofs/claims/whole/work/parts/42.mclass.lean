/-! ===== the reference: classes of marks, look ===== -/
theorem cls_le (A : SA) : ∀ m, (clsS A m).1 ≤ m ∧ ∀ j, (clsS A m).2 j ≤ m
  | 0 => ⟨Nat.le_refl _, fun _ => Nat.le_refl _⟩
  | m + 1 => by
    have ih := cls_le A m
    rw [clsS]
    split
    · refine ⟨by simp only; omega, fun j => ?_⟩
      simp only [va_up]
      split
      · omega
      · have := ih.2 j; omega
    · refine ⟨by simp only; omega, fun j => ?_⟩
      simp only [va_up]
      split
      · have := ih.2 (likS A m); omega
      · have := ih.2 j; omega
theorem lik_0 (A : SA) : likS A 0 = 0 := rfl
theorem cls_pos (A : SA) : ∀ m, 1 ≤ (clsS A (m + 1)).1
  | 0 => by rw [clsS, if_pos (lik_0 A)]; simp [clsS]
  | m + 1 => by
    have ih := cls_pos A m
    rw [clsS]
    split
    · simp only; omega
    · exact ih
section
variable {h : MH} {A : SA}
theorem al_L15 (hG : Gr h) (hA : OkA A) (M : MS h A) {m q r : Nat} (hm : m < 16) (hq : q < 16) (hr : r < 14) (k : Int32 → Option Int32) :
    ∀ (n f i : Nat) (b : Bool), n + i = sc A r → n < f → f_X10_areAlike_L15 k h 230 (nI m) (nI q) (nI r) f (b2 b) (nI i) = k (b2 (b && !(anyF (sepP A m q r) n i)))
  | 0, f, i, b, hn, hf => by
    have h6 := (hA.2.2.2.2.2.1 r hr).1
    obtain ⟨f, rfl⟩ : ∃ g, f = g + 1 := ⟨f - 1, by omega⟩
    rw [f_X10_areAlike_L15, r_6 hG, bS, aI_s hG (by decide) (by decide) (show r < 14 from hr) (M.2.2.2.2.2.2.1 r hr), bS, in_le (by omega) (by omega), if_pos (by omega)]
    simp [anyF]
  | n + 1, f, i, b, hn, hf => by
    have ok := hA.2.2.2.2.2.1 r hr
    have h6 := ok.1
    obtain ⟨f, rfl⟩ : ∃ g, f = g + 1 := ⟨f - 1, by omega⟩
    have hi : i < sc A r := by omega
    have d := ok.2 i hi
    have g0 := rule_g hG hA M hr hi (show 0 < 4 by decide)
    have g1 := rule_g hG hA M hr hi (show 1 < 4 by decide)
    rw [Nat.add_zero] at g0
    have ih := fun b => al_L15 hG hA M hm hq hr k n f (i + 1) b (by omega) (by omega)
    rw [f_X10_areAlike_L15, r_6 hG, bS, aI_s hG (by decide) (by decide) (show r < 14 from hr) (M.2.2.2.2.2.2.1 r hr), bS, in_le (by omega) (by omega), if_neg (by omega), b2_it]
    cases b with
    | false => rw [if_neg (by decide)]; simp
    | true =>
      rw [if_pos rfl, cl_mul2, nI_add, cl_mul2, show 4 * (6 * r + i) = 24 * r + 4 * i by omega, cl_add, r_7 hG, bS, g0, bS, bS, g1, bS, ofSpan_eq (by omega) (by omega) hm, bS, bS, g0, bS, bS, g1, bS, ofSpan_eq (by omega) (by omega) hq, bS, cl_add, anyF]
      by_cases c : spanB (sd A r i 0) (sd A r i 1) m = spanB (sd A r i 0) (sd A r i 1) q
      · rw [if_pos (by rw [c])]
        have hne : sepP A m q r i = false := by unfold sepP; simp [c]
        have := ih true
        simpa [b2, hne] using this
      · rw [if_neg (by
          intro z
          apply c
          cases h1 : spanB (sd A r i 0) (sd A r i 1) m <;> cases h2 : spanB (sd A r i 0) (sd A r i 1) q <;> rw [h1, h2] at z <;> first | rfl | exact absurd z (by decide))]
        have hne : sepP A m q r i = true := by unfold sepP; simpa using c
        have := ih false
        simpa [b2, hne] using this
theorem al_L5 (hG : Gr h) (hA : OkA A) (M : MS h A) {m q : Nat} (hm : m < 16) (hq : q < 16) (k : Int32 → Option Int32) :
    ∀ (n f r : Nat) (b : Bool), n + r = 14 → n < f → f_X10_areAlike_L5 k h 230 (nI m) (nI q) f (b2 b) (nI r) = k (b2 (b && !(anyF (sepR A m q) n r)))
  | 0, f, r, b, hn, hf => by
    obtain ⟨f, rfl⟩ : ∃ g, f = g + 1 := ⟨f - 1, by omega⟩
    rw [f_X10_areAlike_L5, it_le2 (by omega) (by decide), if_pos (by omega)]
    simp [anyF]
  | n + 1, f, r, b, hn, hf => by
    have h6 := (hA.2.2.2.2.2.1 r (by omega)).1
    obtain ⟨f, rfl⟩ : ∃ g, f = g + 1 := ⟨f - 1, by omega⟩
    have ih := al_L5 hG hA M hm hq k n f (r + 1) (b && !(sepR A m q r)) (by omega) (by omega)
    rw [f_X10_areAlike_L5, it_le2 (by omega) (by decide), if_neg (by omega)]
    refine (al_L15 hG hA M hm hq (by omega) _ (sc A r) fuel 0 b (by omega) (by unfold fuel; omega)).trans ?_
    rw [cl_add]
    refine ih.trans ?_
    rw [anyF]
    cases sepR A m q r <;> cases b <;> simp
theorem alike_eq (hG : Gr h) (hA : OkA A) (M : MS h A) {m q : Nat} (hm : m < 16) (hq : q < 16) : f_X10_areAlike h 230 (nI m) (nI q) = some (b2 (!(sepS A m q))) := by
  unfold f_X10_areAlike
  rw [r_K hG]
  refine (al_L5 hG hA M hm hq (fun x3e104 => zR x3e104) 14 fuel 0 true rfl (by decide)).trans ?_
  rw [sepS_eq, Bool.true_and]
  exact zR_b _
/-- the class of mark m is sought among the marks below -/
theorem cl_L19 (hA : OkA A) {m : Nat} (hm : m < 16) (c : Nat → Nat) (hc : ∀ j, c j ≤ 16) {x1 : Int32} (k : MH → Option (Int32 × MH)) :
    ∀ (n f q : Nat) (h : MH), n + q = m → n < f → Gr h → MS h A → mm_I h 242 m = -1 → (∀ j, j < m → mm_I h 242 j = nI (c j)) →
      f_X10_classMany_L19 k 230 x1 (nI m) f h (nI q) = k (if lst (fun q => !(sepS A m q)) n q = m then h else mm_si h 242 m (nI (c (lst (fun q => !(sepS A m q)) n q))))
  | 0, f, q, h, hn, hf, hG, M, e, o => by
    obtain ⟨f, rfl⟩ : ∃ g, f = g + 1 := ⟨f - 1, by omega⟩
    rw [f_X10_classMany_L19, in_le (by omega) (by omega), if_pos (by omega), lst, if_pos (by omega)]
  | n + 1, f, q, h, hn, hf, hG, M, e, o => by
    obtain ⟨f, rfl⟩ : ∃ g, f = g + 1 := ⟨f - 1, by omega⟩
    rw [f_X10_classMany_L19, in_le (by omega) (by omega), if_neg (by omega), r_23 hG, bS, aI_g hG (by decide) (by decide) (show m < 16 from hm), e, bS, if_pos rfl, alike_eq hG hA M hm (by omega), bS, b2_it, lst, cl_add]
    by_cases cs : (!(sepS A m q)) = true
    · rw [if_pos cs, if_pos cs, if_neg (show ¬ q = m by omega), bS, bS, aI_s hG (by decide) (by decide) (show q < 16 by omega) (o q (by omega)), bS, sI_g hG (by decide) (by decide) (show m < 16 from hm), bS]
      obtain ⟨f, rfl⟩ : ∃ g, f = g + 1 := ⟨f - 1, by omega⟩
      have hcq := hc q
      rw [f_X10_classMany_L19]
      split
      · rfl
      · rw [r_23 hG.si, bS, aI_g hG.si (by decide) (by decide) (show m < 16 from hm), bS, si_s, it_m1 (by omega)]
    · rw [if_neg cs, if_neg cs]
      exact cl_L19 hA hm c hc k n f (q + 1) h (by omega) (by omega) hG M e o
theorem cl_L4 (hA : OkA A) (k : Int32 → MH → Option (Int32 × MH)) :
    ∀ (n f m : Nat) (h : MH), n + m = 16 → n < f → Gr h → MS h A → (∀ j, j < m → mm_I h 242 j = nI ((clsS A m).2 j)) →
      ∃ h', f_X10_classMany_L4 k 230 f h (nI (clsS A m).1) (nI m) = k (nI (clsS A 16).1) h' ∧ Only h h' (fun a => a = 242) ∧ ∀ j, j < 16 → mm_I h' 242 j = nI ((clsS A 16).2 j) := by
  intro n
  induction n with
  | zero =>
    intro f m h hn hf hG M o
    obtain ⟨f, rfl⟩ : ∃ g, f = g + 1 := ⟨f - 1, by omega⟩
    have em : m = 16 := by omega
    subst em
    refine ⟨h, ?_, Only.rf, o⟩
    rw [f_X10_classMany_L4, it_le2 (by decide) (by decide), if_pos (by decide)]
  | succ n ih =>
    intro f m h hn hf hG M o
    obtain ⟨f, rfl⟩ : ∃ g, f = g + 1 := ⟨f - 1, by omega⟩
    have hm : m < 16 := by omega
    have cl := cls_le A m
    have MM : ∀ {h' : MH}, Only h h' (fun a => a = 242) → MS h' A := fun o => M.cong (fun k _ => by rw [o.2.2.2.2.2 230 (by decide)]) (fun a _ _ => o.2.2.2.2.2 a (by omega))
    have o1 : Only h (mm_si h 242 m (-1)) (fun a => a = 242) := Only.si rfl
    have c19 := cl_L19 hA hm (clsS A m).2 (fun j => by have := cl.2 j; omega) (x1 := nI (clsS A m).1) (fun he61 => (gR he61 230 10 23).bind fun b62 => (aI he61 b62 (nI m)).bind fun v66 => (if v66 = (-1 : Int32) then ((gR he61 230 10 23).bind fun b75 => (sI he61 b75 (nI m) (nI (clsS A m).1)).bind fun h80 => f_X10_classMany_L4 k 230 f h80 (nI (clsS A m).1 + (1 : Int32)) (nI m + (1 : Int32))) else (f_X10_classMany_L4 k 230 f he61 (nI (clsS A m).1) (nI m + (1 : Int32))))) m fuel 0 (mm_si h 242 m (-1)) (by omega) (by unfold fuel; omega) hG.si (MM o1) (by rw [si_s]) (fun j hj => by rw [si_o2 (by omega)]; exact o j hj)
    rw [f_X10_classMany_L4, it_le2 (by omega) (by decide), if_neg (by omega), r_23 hG, bS, sI_g hG (by decide) (by decide) (show m < 16 from hm), bS, show (0 : Int32) = nI 0 from rfl, c19]
    have el : lst (fun q => !(sepS A m q)) m 0 = likS A m := rfl
    rw [el]
    by_cases c : likS A m = m
    · rw [if_pos c, r_23 hG.si, bS, aI_g hG.si (by decide) (by decide) (show m < 16 from hm), bS, si_s, if_pos rfl, bS, sI_g hG.si (by decide) (by decide) (show m < 16 from hm), bS, cl_add, cl_add]
      have o2 : Only h (mm_si (mm_si h 242 m (-1)) 242 m (nI (clsS A m).1)) (fun a => a = 242) := o1.tr (Only.si rfl)
      have ec : clsS A (m + 1) = ((clsS A m).1 + 1, va_up (clsS A m).2 m (clsS A m).1) := by rw [clsS, if_pos c]
      obtain ⟨h3, e3, w3, o3⟩ := ih f (m + 1) (mm_si (mm_si h 242 m (-1)) 242 m (nI (clsS A m).1)) (by omega) (by omega) hG.si.si (MM o2) (fun j hj => by
        rw [ec]
        show _ = nI (va_up (clsS A m).2 m (clsS A m).1 j)
        by_cases ej : j = m
        · subst ej; rw [si_s, va_up_self]
        · rw [si_o2 ej, si_o2 ej, va_up_ne _ _ ej]; exact o j (by omega))
      rw [ec] at e3
      exact ⟨h3, e3, o2.tr w3, o3⟩
    · have hcl := cl.2 (likS A m)
      rw [if_neg c, r_23 hG.si.si, bS, aI_g hG.si.si (by decide) (by decide) (show m < 16 from hm), bS, si_s, it_m1 (by omega), cl_add]
      have o2 : Only h (mm_si (mm_si h 242 m (-1)) 242 m (nI ((clsS A m).2 (likS A m)))) (fun a => a = 242) := o1.tr (Only.si rfl)
      have ec : clsS A (m + 1) = ((clsS A m).1, va_up (clsS A m).2 m ((clsS A m).2 (likS A m))) := by rw [clsS, if_neg c]
      obtain ⟨h3, e3, w3, o3⟩ := ih f (m + 1) (mm_si (mm_si h 242 m (-1)) 242 m (nI ((clsS A m).2 (likS A m)))) (by omega) (by omega) hG.si.si (MM o2) (fun j hj => by
        rw [ec]
        show _ = nI (va_up (clsS A m).2 m ((clsS A m).2 (likS A m)) j)
        by_cases ej : j = m
        · subst ej; rw [si_s, va_up_self]
        · rw [si_o2 ej, si_o2 ej, va_up_ne _ _ ej]; exact o j (by omega))
      rw [ec] at e3
      exact ⟨h3, e3, o2.tr w3, o3⟩
theorem classMany_eq (hG : Gr h) (hA : OkA A) (M : MS h A) : ∃ h', f_X10_classMany h 230 = some (nI (clsS A 16).1, h') ∧ Only h h' (fun a => a = 242) ∧ ∀ j, j < 16 → mm_I h' 242 j = nI ((clsS A 16).2 j) := by
  obtain ⟨h1, e1, o1, q1⟩ := cl_L4 hA (fun x1e90 he90 => some (x1e90, he90)) 16 fuel 0 h (by omega) (by decide) hG M (fun j hj => by omega)
  refine ⟨h1, ?_, o1, q1⟩
  unfold f_X10_classMany
  rw [r_K hG]
  exact e1
/-- look's counts -/
theorem lk_L68 (hG : Gr h) (hA : OkA A) (M : MS h A) (k : Int32 → Option (Int32 × MH)) :
    ∀ (n f x : Nat), n + x = 28 → n < f → f_X10_look_L68 k h 230 f (nI (cntS (isLk A) x)) (nI x) = k (nI (lkS A))
  | 0, f, x, hn, hf => by
    obtain ⟨f, rfl⟩ : ∃ g, f = g + 1 := ⟨f - 1, by omega⟩
    rw [f_X10_look_L68, it_le2 (by omega) (by decide), if_pos (by omega), show x = 28 by omega]
    rfl
  | n + 1, f, x, hn, hf => by
    obtain ⟨f, rfl⟩ : ∃ g, f = g + 1 := ⟨f - 1, by omega⟩
    have ih := lk_L68 hG hA M k n f (x + 1) (by omega) (by omega)
    have ok := hA.2.2.2.1 x (by omega)
    rw [f_X10_look_L68, it_le2 (by omega) (by decide), if_neg (by omega), r_3 hG, bS, aI_s hG (by decide) (by decide) (show x < 28 by omega) (M.2.2.2.1 x (by omega)), bS, it_eq1 (thr_lt _) (by decide), cl_add, cl_add]
    rw [cntS] at ih
    by_cases c : thr (sp A x) = 1
    · have hk : isLk A x = true := by
        unfold isLk
        unfold thr at c
        by_cases c0 : sp A x = 0
        · rw [if_pos c0] at c; cases c
        · rw [if_neg c0] at c
          by_cases c1 : sp A x < 100
          · simp; omega
          · rw [if_neg c1] at c; cases c
      rw [if_pos c]
      rw [hk] at ih
      exact ih
    · have hk : isLk A x = false := by
        cases hq : isLk A x with
        | false => rfl
        | true =>
          unfold isLk at hq
          simp at hq
          exfalso; apply c
          unfold thr
          rw [if_neg (by omega), if_pos (by omega)]
      rw [if_neg c, show nI (cntS (isLk A) x) + (0 : Int32) = nI (cntS (isLk A) x) from nI_add _ 0]
      rw [hk] at ih
      exact ih
theorem lk_L104 (hG : Gr h) (M : MS h A) (k : Int32 → Option (Int32 × MH)) :
    ∀ (n f x : Nat), n + x = 14 → n < f → f_X10_look_L104 k h 230 f (nI (smS (sc A) x)) (nI x) = k (nI (smS (sc A) 14))
  | 0, f, x, hn, hf => by
    obtain ⟨f, rfl⟩ : ∃ g, f = g + 1 := ⟨f - 1, by omega⟩
    rw [f_X10_look_L104, it_le2 (by omega) (by decide), if_pos (by omega), show x = 14 by omega]
  | n + 1, f, x, hn, hf => by
    obtain ⟨f, rfl⟩ : ∃ g, f = g + 1 := ⟨f - 1, by omega⟩
    rw [f_X10_look_L104, it_le2 (by omega) (by decide), if_neg (by omega), r_6 hG, bS, aI_s hG (by decide) (by decide) (show x < 14 by omega) (M.2.2.2.2.2.2.1 x (by omega)), bS, nI_add, cl_add]
    exact lk_L104 hG M k n f (x + 1) (by omega) (by omega)
theorem cnt_ext {p : Nat → Bool} {u : Nat} (hp : ∀ j, u ≤ j → p j = false) : ∀ n, cntS p (u + n) = cntS p u
  | 0 => rfl
  | n + 1 => by
    rw [show u + (n + 1) = (u + n) + 1 by omega, cntS, hp (u + n) (by omega), cnt_ext hp n]; rfl
theorem gd_out {y : Nat} (h : allS A + 1 ≤ y) : gdS A y = false := by
  unfold gdS
  cases hq : wi y (unlikeS A) with
  | false => rfl
  | true => have := wi_all hq; omega
theorem lk_L148 (hG : Gr h) (hA : OkA A) (M : MS h A) (K : Kn h A) (k : Int32 → Option (Int32 × MH)) :
    ∀ (n f x : Nat), n + x = allS A + 1 → n < f → f_X10_look_L148 k h 230 f (nI (cntS (gdS A) x)) (nI x) = k (nI (cntS (gdS A) 128))
  | 0, f, x, hn, hf => by
    have hl := all_lt hA
    obtain ⟨f, rfl⟩ : ∃ g, f = g + 1 := ⟨f - 1, by omega⟩
    have := cnt_ext (p := gdS A) (u := allS A + 1) (fun j hj => gd_out hj) (128 - (allS A + 1))
    rw [show allS A + 1 + (128 - (allS A + 1)) = 128 by omega] at this
    rw [f_X10_look_L148, all_eq hG hA M, bS, in_lt (by omega) (by omega), if_pos (by omega), show x = allS A + 1 by omega, this]
  | n + 1, f, x, hn, hf => by
    have hl := all_lt hA
    have hu := unlike_lt hA
    obtain ⟨f, rfl⟩ : ∃ g, f = g + 1 := ⟨f - 1, by omega⟩
    have ih := lk_L148 hG hA M K k n f (x + 1) (by omega) (by omega)
    have z0 : nI (cntS (gdS A) x) + (0 : Int32) = nI (cntS (gdS A) x) := nI_add _ 0
    rw [f_X10_look_L148, all_eq hG hA M, bS, in_lt (by omega) (by omega), if_neg (by omega), unlikeM_eq hG hA M, bS, z0, cl_add, cl_add]
    rw [cntS] at ih
    by_cases c1 : wi x (unlikeS A) = true
    · rw [if_pos ((wi_eq (by omega) hu).mpr c1), r_22 hG, bS, aZ_g hG (by decide) (by decide) (show x < 128 by omega), K.2 x (by omega), bS, b2_it]
      by_cases c2 : goodS A x = true
      · rw [if_pos c2]
        rw [show gdS A x = true by unfold gdS; rw [c1, c2]; rfl] at ih
        exact ih
      · rw [if_neg c2]
        rw [show gdS A x = false by unfold gdS; simp [c2]] at ih
        exact ih
    · rw [if_neg (fun z => c1 ((wi_eq (by omega) hu).mp z))]
      rw [show gdS A x = false by unfold gdS; simp [c1]] at ih
      exact ih
end
section
variable {h : MH} {z : ZS}
theorem MX.cls {h' : MH} (o : Only h h' (fun a => a = 242)) (M : MX h z) : MX h' z := by
  have w : Lk h h' := ⟨o.mono (fun a q => by omega), fun k _ _ _ => by rw [o.2.2.2.2.2 230 (by decide)]⟩
  exact w.mx (M.2.1.cong (by rw [o.2.2.2.2.2 230 (by decide)]) (o.2.2.2.2.2 241 (by decide))) M
theorem y_class (hz : OkZ z) (hG : Gr h) (M : MX h z) (x : Int32) : ∃ h', f_X10_ofClass h 230 x = some (opClass z x, h') ∧ MX h' z ∧ Only h h' MF := by
  have hA := hz.1
  unfold f_X10_ofClass
  rw [r_K hG]
  rcases idx_cases x 16 (by omega) with ⟨m, hm, rfl, im⟩ | ⟨-, im, c⟩
  · obtain ⟨h1, e1, o1, q1⟩ := classMany_eq hG hA M.1
    have hp : 1 ≤ (clsS (zA z) 16).1 := cls_pos (zA z) 15
    have hl := (cls_le (zA z) 16).1
    have eO : opClass z (nI m) = nI ((clsS (zA z) 16).2 m) := by unfold opClass; rw [im]
    rw [isInL_y (show m ≤ 15 by omega) (by decide), bS, if_neg (by decide), e1, bS, it_le1 (by omega) (by decide), if_neg (by show ¬ (clsS (zA z) 16).1 ≤ 0; omega), r_23 (o1.Gr hG), bS, aI_s (o1.Gr hG) (by decide) (by decide) (show m < 16 from hm) (q1 m hm), bS, eO]
    exact ⟨h1, rfl, M.cls o1, o1.mono (fun a q => by unfold MF; omega)⟩
  · have eO : opClass z x = -1 := by unfold opClass; rw [im]
    rw [isInL_n (by decide) c, bS, if_pos rfl, eO]
    exact ⟨h, rfl, M, Only.rf⟩
theorem y_look (hz : OkZ z) (hG : Gr h) (M : MX h z) (x : Int32) : ∃ h', f_X10_look h 230 x = some (opLook z x, h') ∧ MX h' z ∧ Only h h' MF := by
  have hA := hz.1
  have P := M.2.2.1
  have same : ∀ v, v = opLook z x → ∃ h', some (v, h) = some (opLook z x, h') ∧ MX h' z ∧ Only h h' MF := fun v e => ⟨h, by rw [e], M, Only.rf⟩
  unfold f_X10_look
  rw [r_K hG]
  by_cases c0 : x = 0
  · rw [if_pos c0, r_I hG, bS]
    exact same _ (by unfold opLook; rw [if_pos c0, M.1.1])
  rw [if_neg c0]
  by_cases c1 : x = 1
  · rw [if_pos c1, r_I hG, bS]
    exact same _ (by unfold opLook; rw [if_neg c0, if_pos c1, M.1.2.1])
  rw [if_neg c1]
  by_cases c2 : x = 2
  · have hl := lkS_le (zA z)
    rw [if_pos c2]
    have e := lk_L68 hG hA M.1 (fun x2e98 => some ((x2e98 / (2 : Int32)), h)) 28 fuel 0 rfl (by decide)
    refine ⟨h, e.trans ?_, M, Only.rf⟩
    unfold opLook
    rw [if_neg c0, if_neg c1, if_pos c2, cl_div (by omega) (by decide) (by decide)]
  rw [if_neg c2]
  by_cases c3 : x = 3
  · rw [if_pos c3]
    have e := lk_L104 hG M.1 (fun x2e125 => some (x2e125, h)) 14 fuel 0 rfl (by decide)
    refine ⟨h, e.trans ?_, M, Only.rf⟩
    unfold opLook
    rw [if_neg c0, if_neg c1, if_neg c2, if_pos c3]
  rw [if_neg c3]
  by_cases c4 : x = 4
  · rw [if_pos c4, r_I hG, bS]
    exact same _ (by unfold opLook; rw [if_neg c0, if_neg c1, if_neg c2, if_neg c3, if_pos c4, M.1.2.2.1])
  rw [if_neg c4]
  by_cases c5 : x = 5
  · rw [if_pos c5, unlikeM_eq hG hA M.1, bS]
    exact same _ (by unfold opLook; rw [if_neg c0, if_neg c1, if_neg c2, if_neg c3, if_neg c4, if_pos c5])
  rw [if_neg c5]
  by_cases c6 : x = 6
  · obtain ⟨h1, e1, o1, q1⟩ := classMany_eq hG hA M.1
    rw [if_pos c6, e1, bS]
    refine ⟨h1, ?_, M.cls o1, o1.mono (fun a q => by unfold MF; omega)⟩
    unfold opLook
    rw [if_neg c0, if_neg c1, if_neg c2, if_neg c3, if_neg c4, if_neg c5, if_pos c6]
  rw [if_neg c6]
  by_cases c7 : x = 7
  · obtain ⟨h1, e1, w1, K1⟩ := learn_eq hG hA M.1 M.2.1
    have G1 := w1.1.Gr hG
    have hl := all_lt hA
    rw [if_pos c7, e1, bS]
    have e := lk_L148 G1 hA (w1.lk.ms M.1) K1 (fun x2e190 => some (x2e190, h1)) (allS (zA z) + 1) fuel 0 (by omega) (by unfold fuel; omega)
    refine ⟨h1, e.trans ?_, w1.lk.mx K1.mk M, w1.lk.mf⟩
    unfold opLook
    rw [if_neg c0, if_neg c1, if_neg c2, if_neg c3, if_neg c4, if_neg c5, if_neg c6, if_pos c7]
  rw [if_neg c7]
  by_cases c8 : x = 8
  · rw [if_pos c8, r_I hG, bS]
    exact same _ (by unfold opLook; rw [if_neg c0, if_neg c1, if_neg c2, if_neg c3, if_neg c4, if_neg c5, if_neg c6, if_neg c7, if_pos c8, P.1])
  rw [if_neg c8]
  by_cases c9 : x = 9
  · have au := all_un hA hz.2.2.2.1
    have hu := unlike_lt hA
    rw [if_pos c9, r_I hG, bS, P.1, planned_eq hG P (Nat.le_refl _), bS, List.take_length, unlikeM_eq hG hA M.1, bS, in_eq (by omega) (by omega)]
    refine ⟨h, ?_, M, Only.rf⟩
    unfold opLook
    rw [if_neg c0, if_neg c1, if_neg c2, if_neg c3, if_neg c4, if_neg c5, if_neg c6, if_neg c7, if_neg c8, if_pos c9]
    split <;> rfl
  rw [if_neg c9]
  exact same _ (by unfold opLook; rw [if_neg c0, if_neg c1, if_neg c2, if_neg c3, if_neg c4, if_neg c5, if_neg c6, if_neg c7, if_neg c8, if_neg c9])
end

/-! ===== the class's rows of rules ===== -/
def RowD (h : MH) (r c : Nat) (d : Nat → Nat → Nat) : Prop := mm_I h (6 + 6 * r) 5 = nI c ∧ ∀ i, i < c → ∀ j, j < 4 → mm_I h (6 + 6 * r + 1 + j) i = nI (d i j)
def OkD (c : Nat) (d : Nat → Nat → Nat) : Prop := c ≤ 6 ∧ ∀ i, i < c → d i 0 ≤ 15 ∧ d i 1 ≤ 15 ∧ d i 2 ≤ 9 ∧ d i 3 ≤ 4
def RowF (h : MH) (r c : Nat) (d : Nat → Nat → Nat) : Prop := RowD h r c d ∧ ∀ m, m < 16 → mm_I h (6 + 6 * r + 5) m = nI (actR c d m)
def InRow (r a : Nat) : Prop := 6 + 6 * r ≤ a ∧ a < 12 + 6 * r
theorem rdAt {h : MH} (hG : Gr h) {r c i j : Nat} {d : Nat → Nat → Nat} (hr : r < 14) (R : RowD h r c d) (hc : c ≤ 6) (hi : i < c) (hj : j < 4) : gR h (6 + 6 * r) 5 j = some (6 + 6 * r + 1 + j) ∧ aI h (6 + 6 * r + 1 + j) (nI i) = some (nI (d i j)) := by
  refine ⟨gR_g hG (by omega) (gk_row hr) (gr_row hr (by omega)), ?_⟩
  rw [aI_g hG (by omega) (by rw [show 6 + 6 * r + 1 + j = 6 + 6 * r + (1 + j) by omega]; exact gk_rowa hr (by omega) (by omega)) (by rw [show 6 + 6 * r + 1 + j = 6 + 6 * r + (1 + j) by omega, gl_rowa hr (by omega) (by omega)]; omega), R.2 i hi j hj]
theorem fa_L15 {h : MH} (hG : Gr h) {r c m : Nat} {d : Nat → Nat → Nat} (hr : r < 14) (R : RowD h r c d) (ok : OkD c d) (hm : m < 16) (k : Int32 → Option MH) :
    ∀ (n f i : Nat), n + i = c → n < f → f_X5_findActs_L15 k h (6 + 6 * r) (nI m) f (nI (actP d m i).1 - 1) (nI (actP d m i).2) (nI i) = k (nI (actR c d m))
  | 0, f, i, hn, hf => by
    obtain ⟨f, rfl⟩ : ∃ g, f = g + 1 := ⟨f - 1, by omega⟩
    have h6 := ok.1
    rw [f_X5_findActs_L15, gI_g hG (by omega) (gk_row hr), bS, R.1, in_le (by omega) (by omega), if_pos (by omega), actR, show i = c by omega]
  | n + 1, f, i, hn, hf => by
    obtain ⟨f, rfl⟩ : ∃ g, f = g + 1 := ⟨f - 1, by omega⟩
    have h6 := ok.1
    have hi : i < c := by omega
    have ih := fa_L15 hG hr R ok hm k n f (i + 1) (by omega) (by omega)
    have hd := ok.2 i hi
    have hp := actP_le (c := d) (m := m) i (fun i' hi' => ⟨(ok.2 i' (by omega)).2.2.1, (ok.2 i' (by omega)).2.2.2⟩)
    have a0 := rdAt hG hr R h6 hi (show 0 < 4 by decide)
    have a1 := rdAt hG hr R h6 hi (show 1 < 4 by decide)
    have a2 := rdAt hG hr R h6 hi (show 2 < 4 by decide)
    have a3 := rdAt hG hr R h6 hi (show 3 < 4 by decide)
    rw [f_X5_findActs_L15, gI_g hG (by omega) (gk_row hr), bS, R.1, in_le (by omega) (by omega), if_neg (by omega), a2.1, bS, a2.2, bS, cl_add]
    rw [actP] at ih
    by_cases c1 : d i 2 + 1 ≤ (actP d m i).1
    · rw [if_pos ((nI_pred1 (by omega) (by omega)).mpr c1)]
      rw [if_pos c1] at ih
      exact ih
    · rw [if_neg (fun z => c1 ((nI_pred1 (by omega) (by omega)).mp z)), a0.1, bS, a0.2, bS, a1.1, bS, a1.2, bS, spanHas_eq hd.1 hd.2.1 hm, bS, it_b]
      rw [if_neg c1] at ih
      by_cases c2 : spanB (d i 0) (d i 1) m = true
      · rw [if_pos c2, bS, a2.2, bS, a3.1, bS, a3.2, bS]
        rw [if_pos c2] at ih
        simp only at ih
        rw [show nI (d i 2 + 1) - 1 = nI (d i 2) from pk_sub (a := d i 2 + 1) (b := 1) (by omega)] at ih
        exact ih
      · rw [if_neg c2]
        rw [if_neg c2] at ih
        exact ih
theorem fa_L2 {r c : Nat} {d : Nat → Nat → Nat} (hr : r < 14) (ok : OkD c d) (k : MH → Option MH) :
    ∀ (n f : Nat) (h : MH) (m : Nat), n + m = 16 → n < f → Gr h → RowD h r c d → (∀ q, q < m → mm_I h (6 + 6 * r + 5) q = nI (actR c d q)) →
      ∃ h', f_X5_findActs_L2 k (6 + 6 * r) f h (nI m) = k h' ∧ Only h h' (fun a => a = 6 + 6 * r + 5) ∧ RowF h' r c d := by
  intro n
  induction n with
  | zero =>
    intro f h m hn hf hG R hq
    obtain ⟨f, rfl⟩ : ∃ g, f = g + 1 := ⟨f - 1, by omega⟩
    refine ⟨h, ?_, Only.rf, R, fun q hq' => hq q (by omega)⟩
    rw [f_X5_findActs_L2, it_le2 (by omega) (by decide), if_pos (by omega)]
  | succ n ih =>
    intro f h m hn hf hG R hq
    obtain ⟨f, rfl⟩ : ∃ g, f = g + 1 := ⟨f - 1, by omega⟩
    have h6 := ok.1
    have o1 : Only h (mm_si h (6 + 6 * r + 5) m (nI (actR c d m))) (fun a => a = 6 + 6 * r + 5) := Only.si rfl
    obtain ⟨h2, e2, o2, q2⟩ := ih f (mm_si h (6 + 6 * r + 5) m (nI (actR c d m))) (m + 1) (by omega) (by omega) hG.si ⟨by rw [si_o (by omega)]; exact R.1, fun i hi j hj => by rw [si_o (by omega)]; exact R.2 i hi j hj⟩ (fun q hq' => by
      by_cases e : q = m
      · subst e; rw [si_s]
      · rw [si_o2 e]; exact hq q (by omega))
    refine ⟨h2, ?_, o1.tr o2, q2⟩
    have e1 := fa_L15 hG hr R ok (show m < 16 by omega) (fun x3e78 => (gR h (6 + 6 * r) 5 4).bind fun b79 => (sI h b79 (nI m) x3e78).bind fun h84 => f_X5_findActs_L2 k (6 + 6 * r) f h84 (nI m + (1 : Int32))) c fuel 0 (by omega) (by unfold fuel; omega)
    rw [f_X5_findActs_L2, it_le2 (by omega) (by decide), if_neg (by omega)]
    refine Eq.trans ?_ (e1.trans ?_)
    · rfl
    · rw [gR_g hG (by omega) (gk_row hr) (gr_row hr (by decide)), bS, show 6 + 6 * r + 1 + 4 = 6 + 6 * r + 5 by omega, sI_g hG (by omega) (gk_rowa hr (by decide) (by decide)) (by rw [gl_rowm hr]; omega), bS, cl_add]
      exact e2
theorem findActs_eq {h : MH} {r c : Nat} {d : Nat → Nat → Nat} (hG : Gr h) (hr : r < 14) (ok : OkD c d) (R : RowD h r c d) : ∃ h', f_X5_findActs h (6 + 6 * r) = some h' ∧ Only h h' (fun a => a = 6 + 6 * r + 5) ∧ RowF h' r c d := by
  obtain ⟨h1, e1, o1, q1⟩ := fa_L2 hr ok (fun he91 => some he91) 16 fuel h 0 rfl (by decide) hG R (fun q hq => by omega)
  refine ⟨h1, ?_, o1, q1⟩
  unfold f_X5_findActs
  rw [gK_g hG (by omega) (gk_row hr)]
  exact e1
theorem sizeR_eq {h : MH} {r c : Nat} {d : Nat → Nat → Nat} (hG : Gr h) (hr : r < 14) (R : RowD h r c d) : f_X5_size h (6 + 6 * r) = some (nI c) := by
  unfold f_X5_size
  rw [gK_g hG (by omega) (gk_row hr), gI_g hG (by omega) (gk_row hr), bS, R.1]
theorem clearR_eq {h : MH} {r : Nat} (hG : Gr h) (hr : r < 14) (d : Nat → Nat → Nat) : ∃ h', f_X5_clear h (6 + 6 * r) = some h' ∧ Only h h' (InRow r) ∧ RowF h' r 0 d := by
  have R0 : RowD (mm_si h (6 + 6 * r) 5 0) r 0 d := ⟨by rw [si_s]; rfl, fun i hi => by omega⟩
  obtain ⟨h1, e1, o1, q1⟩ := findActs_eq (h := mm_si h (6 + 6 * r) 5 0) hG.si hr ⟨by decide, fun i hi => by omega⟩ R0
  refine ⟨h1, ?_, (Only.si (by unfold InRow; omega)).tr (o1.mono (fun a ha => by unfold InRow; omega)), q1⟩
  unfold f_X5_clear
  rw [gK_g hG (by omega) (gk_row hr), pI_g hG (by omega) (gk_row hr), bS, e1, bS]
def putH (h : MH) (r i : Nat) (x0 x1 x2 x3 : Int32) : MH := mm_si (mm_si (mm_si (mm_si h (6 + 6 * r + 1) i x0) (6 + 6 * r + 2) i x1) (6 + 6 * r + 3) i x2) (6 + 6 * r + 4) i x3
theorem put_eq {h : MH} {r i : Nat} {x0 x1 x2 x3 : Int32} (hG : Gr h) (hr : r < 14) (hi : i < 6) : f_X5_put h (6 + 6 * r) (nI i) x0 x1 x2 x3 = some (putH h r i x0 x1 x2 x3) := by
  have gl1 : ∀ j, 1 ≤ j → j < 5 → i < gl (6 + 6 * r + j) := fun j h1 h2 => by rw [gl_rowa hr h1 h2]; exact hi
  unfold f_X5_put putH
  rw [gK_g hG (by omega) (gk_row hr), gR_g hG (by omega) (gk_row hr) (gr_row hr (by decide)), bS, sI_g hG (by omega) (gk_rowa hr (by decide) (by decide)) (gl1 1 (by decide) (by decide)), bS, gR_g hG.si (by omega) (gk_row hr) (gr_row hr (by decide)), bS, sI_g hG.si (by omega) (gk_rowa hr (j := 2) (by decide) (by decide)) (gl1 2 (by decide) (by decide)), bS, gR_g hG.si.si (by omega) (gk_row hr) (gr_row hr (by decide)), bS, sI_g hG.si.si (by omega) (gk_rowa hr (j := 3) (by decide) (by decide)) (gl1 3 (by decide) (by decide)), bS, gR_g hG.si.si.si (by omega) (gk_row hr) (gr_row hr (by decide)), bS, sI_g hG.si.si.si (by omega) (gk_rowa hr (j := 4) (by decide) (by decide)) (gl1 4 (by decide) (by decide)), bS]
theorem putH_only {h : MH} {r i : Nat} {x0 x1 x2 x3 : Int32} : Only h (putH h r i x0 x1 x2 x3) (fun a => 6 + 6 * r < a ∧ a < 6 + 6 * r + 5) := (((Only.si (by omega)).tr (Only.si (by omega))).tr (Only.si (by omega))).tr (Only.si (by omega))
theorem putH_at {h : MH} {r i j k : Nat} {x : Nat → Int32} (hj : j < 4) : mm_I (putH h r i (x 0) (x 1) (x 2) (x 3)) (6 + 6 * r + 1 + j) k = if k = i then x j else mm_I h (6 + 6 * r + 1 + j) k := by
  unfold putH
  rcases (show j = 0 ∨ j = 1 ∨ j = 2 ∨ j = 3 by omega) with rfl | rfl | rfl | rfl
  · rw [si_o (by omega), si_o (by omega), si_o (by omega)]
    by_cases e : k = i
    · subst e; rw [if_pos rfl]; exact si_s
    · rw [if_neg e]; exact si_o2 e
  · rw [si_o (by omega), si_o (by omega)]
    by_cases e : k = i
    · subst e; rw [if_pos rfl]; exact si_s
    · rw [if_neg e]; exact (si_o2 e).trans (si_o (by omega))
  · rw [si_o (by omega)]
    by_cases e : k = i
    · subst e; rw [if_pos rfl]; exact si_s
    · rw [if_neg e]; exact ((si_o2 e).trans (si_o (by omega))).trans (si_o (by omega))
  · by_cases e : k = i
    · subst e; rw [if_pos rfl]; exact si_s
    · rw [if_neg e]; exact (((si_o2 e).trans (si_o (by omega))).trans (si_o (by omega))).trans (si_o (by omega))
def addD (d : Nat → Nat → Nat) (c : Nat) (x : Nat → Nat) : Nat → Nat → Nat := fun i j => if i = c then x j else d i j
theorem addR_eq {h : MH} {r c : Nat} {d : Nat → Nat → Nat} {x : Nat → Nat} (hG : Gr h) (hr : r < 14) (R : RowD h r c d) (hc : c < 6) (ok : OkD (c + 1) (addD d c x)) : ∃ h', f_X5_add h (6 + 6 * r) (nI (x 0)) (nI (x 1)) (nI (x 2)) (nI (x 3)) = some h' ∧ Only h h' (InRow r) ∧ RowF h' r (c + 1) (addD d c x) := by
  have op := putH_only (h := h) (r := r) (i := c) (x0 := nI (x 0)) (x1 := nI (x 1)) (x2 := nI (x 2)) (x3 := nI (x 3))
  have G1 := op.Gr hG
  have es : mm_I (putH h r c (nI (x 0)) (nI (x 1)) (nI (x 2)) (nI (x 3))) (6 + 6 * r) 5 = nI c := by rw [op.2.2.2.2.2 _ (by omega)]; exact R.1
  have R1 : RowD (mm_si (putH h r c (nI (x 0)) (nI (x 1)) (nI (x 2)) (nI (x 3))) (6 + 6 * r) 5 (nI (c + 1))) r (c + 1) (addD d c x) := by
    refine ⟨by rw [si_s], fun i hi j hj => ?_⟩
    rw [si_o (by omega), putH_at (x := fun j => nI (x j)) hj]
    unfold addD
    by_cases e : i = c
    · rw [if_pos e, if_pos e]
    · rw [if_neg e, if_neg e]; exact R.2 i (by omega) j hj
  obtain ⟨h2, e2, o2, q2⟩ := findActs_eq (h := mm_si (putH h r c (nI (x 0)) (nI (x 1)) (nI (x 2)) (nI (x 3))) (6 + 6 * r) 5 (nI (c + 1))) G1.si hr ok R1
  refine ⟨h2, ?_, ((op.mono (fun a ha => by unfold InRow; omega)).tr (Only.si (by unfold InRow; omega))).tr (o2.mono (fun a ha => by unfold InRow; omega)), q2⟩
  unfold f_X5_add
  rw [gK_g hG (by omega) (gk_row hr), gI_g hG (by omega) (gk_row hr), bS, R.1, it_lt1 (by omega) (by decide), if_pos hc, bS, put_eq hG hr hc, bS, gI_g G1 (by omega) (gk_row hr), bS, es, cl_add, pI_g G1 (by omega) (gk_row hr), bS, e2, bS]
def cutD (d : Nat → Nat → Nat) (i0 : Nat) : Nat → Nat → Nat := fun i j => if i < i0 then d i j else d (i + 1) j
theorem rm_L {r c i0 : Nat} {d : Nat → Nat → Nat} (hr : r < 14) (hc : c ≤ 6) (k : MH → Option MH) :
    ∀ (n f : Nat) (h : MH) (i : Nat), n + i + 1 = c → n < f → i0 ≤ i → Gr h → mm_I h (6 + 6 * r) 5 = nI c → (∀ q, q < i → ∀ j, j < 4 → mm_I h (6 + 6 * r + 1 + j) q = nI (cutD d i0 q j)) → (∀ q, i < q → q < c → ∀ j, j < 4 → mm_I h (6 + 6 * r + 1 + j) q = nI (d q j)) →
      ∃ h', f_X5_remove_L15 k (6 + 6 * r) f h (nI i) = k h' ∧ Only h h' (InRow r) ∧ mm_I h' (6 + 6 * r) 5 = nI c ∧ ∀ q, q < c - 1 → ∀ j, j < 4 → mm_I h' (6 + 6 * r + 1 + j) q = nI (cutD d i0 q j) := by
  intro n
  induction n with
  | zero =>
    intro f h i hn hf hi0 hG hs h1 h2
    obtain ⟨f, rfl⟩ : ∃ g, f = g + 1 := ⟨f - 1, by omega⟩
    refine ⟨h, ?_, Only.rf, hs, fun q hq j hj => h1 q (by omega) j hj⟩
    rw [f_X5_remove_L15, gI_g hG (by omega) (gk_row hr), bS, hs, cl_add, in_le (by omega) (by omega), if_pos (by omega)]
  | succ n ih =>
    intro f h i hn hf hi0 hG hs h1 h2
    obtain ⟨f, rfl⟩ : ∃ g, f = g + 1 := ⟨f - 1, by omega⟩
    have rd : ∀ j, j < 4 → gR h (6 + 6 * r) 5 j = some (6 + 6 * r + 1 + j) ∧ aI h (6 + 6 * r + 1 + j) (nI (i + 1)) = some (nI (d (i + 1) j)) := fun j hj => by
      refine ⟨gR_g hG (by omega) (gk_row hr) (gr_row hr (by omega)), ?_⟩
      rw [aI_g hG (by omega) (by rw [show 6 + 6 * r + 1 + j = 6 + 6 * r + (1 + j) by omega]; exact gk_rowa hr (by omega) (by omega)) (by rw [show 6 + 6 * r + 1 + j = 6 + 6 * r + (1 + j) by omega, gl_rowa hr (by omega) (by omega)]; omega), h2 (i + 1) (by omega) (by omega) j hj]
    have op := putH_only (h := h) (r := r) (i := i) (x0 := nI (d (i + 1) 0)) (x1 := nI (d (i + 1) 1)) (x2 := nI (d (i + 1) 2)) (x3 := nI (d (i + 1) 3))
    have G1 := op.Gr hG
    obtain ⟨h3, e3, o3, s3, q3⟩ := ih f (putH h r i (nI (d (i + 1) 0)) (nI (d (i + 1) 1)) (nI (d (i + 1) 2)) (nI (d (i + 1) 3))) (i + 1) (by omega) (by omega) (by omega) G1 (by rw [op.2.2.2.2.2 _ (by omega)]; exact hs) (fun q hq j hj => by
      rw [putH_at (x := fun j => nI (d (i + 1) j)) hj]
      by_cases e : q = i
      · subst e; rw [if_pos rfl]; unfold cutD; rw [if_neg (by omega)]
      · rw [if_neg e]; exact h1 q (by omega) j hj) (fun q hq1 hq2 j hj => by
      rw [putH_at (x := fun j => nI (d (i + 1) j)) hj, if_neg (by omega)]; exact h2 q (by omega) hq2 j hj)
    refine ⟨h3, ?_, (op.mono (fun a ha => by unfold InRow; omega)).tr o3, s3, q3⟩
    rw [f_X5_remove_L15, gI_g hG (by omega) (gk_row hr), bS, hs, cl_add, in_le (by omega) (by omega), if_neg (by omega), (rd 0 (by decide)).1, bS, (rd 0 (by decide)).2, bS, (rd 1 (by decide)).1, bS, (rd 1 (by decide)).2, bS, (rd 2 (by decide)).1, bS, (rd 2 (by decide)).2, bS, (rd 3 (by decide)).1, bS, (rd 3 (by decide)).2, bS, put_eq hG hr (by omega), bS]
    exact e3
theorem removeR_eq {h : MH} {r c i : Nat} {d : Nat → Nat → Nat} (hG : Gr h) (hr : r < 14) (R : RowD h r c d) (ok : OkD c d) (hi : i < c) : ∃ h', f_X5_remove h (6 + 6 * r) (nI i) = some h' ∧ Only h h' (InRow r) ∧ RowF h' r (c - 1) (cutD d i) := by
  have hc := ok.1
  have ok2 : OkD (c - 1) (cutD d i) := ⟨by omega, fun q hq => by unfold cutD; split; exact ok.2 q (by omega); exact ok.2 (q + 1) (by omega)⟩
  obtain ⟨h1, e1, o1, s1, q1⟩ := rm_L hr hc (fun he68 => (gI he68 (6 + 6 * r) 5 5).bind fun v70 => (pI he68 (6 + 6 * r) 5 5 (v70 - (1 : Int32))).bind fun h75 => (f_X5_findActs h75 (6 + 6 * r)).bind fun h79 => some h79) (c - 1 - i) fuel h i (by omega) (by unfold fuel; omega) (Nat.le_refl i) hG R.1 (fun q hq j hj => by unfold cutD; rw [if_pos hq]; exact R.2 q (by omega) j hj) (fun q hq1 hq2 j hj => R.2 q hq2 j hj)
  have G1 := o1.Gr hG
  have R2 : RowD (mm_si h1 (6 + 6 * r) 5 (nI (c - 1))) r (c - 1) (cutD d i) := ⟨by rw [si_s], fun q hq j hj => by rw [si_o (by omega)]; exact q1 q hq j hj⟩
  obtain ⟨h2, e2, o2, q2⟩ := findActs_eq (h := mm_si h1 (6 + 6 * r) 5 (nI (c - 1))) G1.si hr ok2 R2
  refine ⟨h2, ?_, (o1.tr (Only.si (by unfold InRow; omega))).tr (o2.mono (fun a ha => by unfold InRow; omega)), q2⟩
  unfold f_X5_remove
  rw [gK_g hG (by omega) (gk_row hr), it_neg (by omega), gI_g hG (by omega) (gk_row hr), bS, R.1, in_lt (by omega) (by omega), if_pos hi]
  refine e1.trans ?_
  rw [gI_g G1 (by omega) (gk_row hr), bS, s1, cl_sub (by omega), pI_g G1 (by omega) (gk_row hr), bS, e2, bS]
theorem bl_L {r q c : Nat} {d : Nat → Nat → Nat} (hr : r < 14) (hq : q < 14) (hrq : r ≠ q) (ok : OkD c d) (k : MH → Option MH) :
    ∀ (n f : Nat) (h : MH) (i : Nat), n + i = c → n < f → Gr h → RowD h q c d → (∀ t, t < i → ∀ j, j < 4 → mm_I h (6 + 6 * r + 1 + j) t = nI (d t j)) →
      ∃ h', f_X5_becomeLike_L2 k (6 + 6 * r) (6 + 6 * q) f h (nI i) = k h' ∧ Only h h' (InRow r) ∧ ∀ t, t < c → ∀ j, j < 4 → mm_I h' (6 + 6 * r + 1 + j) t = nI (d t j) := by
  intro n
  induction n with
  | zero =>
    intro f h i hn hf hG R h1
    obtain ⟨f, rfl⟩ : ∃ g, f = g + 1 := ⟨f - 1, by omega⟩
    have h6 := ok.1
    refine ⟨h, ?_, Only.rf, fun t ht j hj => h1 t (by omega) j hj⟩
    rw [f_X5_becomeLike_L2, gI_g hG (by omega) (gk_row hq), bS, R.1, in_le (by omega) (by omega), if_pos (by omega)]
  | succ n ih =>
    intro f h i hn hf hG R h1
    obtain ⟨f, rfl⟩ : ∃ g, f = g + 1 := ⟨f - 1, by omega⟩
    have h6 := ok.1
    have rd := fun j (hj : j < 4) => rdAt hG hq R h6 (show i < c by omega) hj
    have op := putH_only (h := h) (r := r) (i := i) (x0 := nI (d i 0)) (x1 := nI (d i 1)) (x2 := nI (d i 2)) (x3 := nI (d i 3))
    have G1 := op.Gr hG
    have R1 : RowD (putH h r i (nI (d i 0)) (nI (d i 1)) (nI (d i 2)) (nI (d i 3))) q c d := ⟨by rw [op.2.2.2.2.2 _ (by omega)]; exact R.1, fun t ht j hj => by rw [op.2.2.2.2.2 _ (by omega)]; exact R.2 t ht j hj⟩
    obtain ⟨h3, e3, o3, q3⟩ := ih f (putH h r i (nI (d i 0)) (nI (d i 1)) (nI (d i 2)) (nI (d i 3))) (i + 1) (by omega) (by omega) G1 R1 (fun t ht j hj => by
      rw [putH_at (x := fun j => nI (d i j)) hj]
      by_cases e : t = i
      · subst e; rw [if_pos rfl]
      · rw [if_neg e]; exact h1 t (by omega) j hj)
    refine ⟨h3, ?_, (op.mono (fun a ha => by unfold InRow; omega)).tr o3, q3⟩
    rw [f_X5_becomeLike_L2, gI_g hG (by omega) (gk_row hq), bS, R.1, in_le (by omega) (by omega), if_neg (by omega), (rd 0 (by decide)).1, bS, (rd 0 (by decide)).2, bS, (rd 1 (by decide)).1, bS, (rd 1 (by decide)).2, bS, (rd 2 (by decide)).1, bS, (rd 2 (by decide)).2, bS, (rd 3 (by decide)).1, bS, (rd 3 (by decide)).2, bS, put_eq hG hr (by omega), bS, cl_add]
    exact e3
theorem becomeR_eq {h : MH} {r q c : Nat} {d : Nat → Nat → Nat} (hG : Gr h) (hr : r < 14) (hq : q < 14) (hrq : r ≠ q) (R : RowD h q c d) (ok : OkD c d) : ∃ h', f_X5_becomeLike h (6 + 6 * r) (6 + 6 * q) = some h' ∧ Only h h' (InRow r) ∧ RowF h' r c d := by
  have h6 := ok.1
  obtain ⟨h1, e1, o1, q1⟩ := bl_L hr hq hrq ok (fun he45 => (gI he45 (6 + 6 * q) 5 5).bind fun v47 => (pI he45 (6 + 6 * r) 5 5 v47).bind fun h50 => (f_X5_findActs h50 (6 + 6 * r)).bind fun h54 => some h54) c fuel h 0 (by omega) (by unfold fuel; omega) hG R (fun t ht => by omega)
  have G1 := o1.Gr hG
  have es : mm_I h1 (6 + 6 * q) 5 = nI c := by rw [o1.2.2.2.2.2 _ (by unfold InRow; omega)]; exact R.1
  have R2 : RowD (mm_si h1 (6 + 6 * r) 5 (nI c)) r c d := ⟨by rw [si_s], fun t ht j hj => by rw [si_o (by omega)]; exact q1 t ht j hj⟩
  obtain ⟨h2, e2, o2, q2⟩ := findActs_eq (h := mm_si h1 (6 + 6 * r) 5 (nI c)) G1.si hr ok R2
  refine ⟨h2, ?_, (o1.tr (Only.si (by unfold InRow; omega))).tr (o2.mono (fun a ha => by unfold InRow; omega)), q2⟩
  unfold f_X5_becomeLike
  rw [gK_g hG (by omega) (gk_row hr)]
  refine e1.trans ?_
  rw [gI_g G1 (by omega) (gk_row hq), bS, es, pI_g G1 (by omega) (gk_row hr), bS, e2, bS]

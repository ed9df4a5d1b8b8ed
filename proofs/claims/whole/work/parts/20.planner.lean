/-! ===== the class's planner ===== -/
def Good (h : MH) (A : SA) : Prop := ∀ y, y < 128 → mm_I h 93 y = b2 (gdS A y)
def ntP (A : SA) (ahead set y : Nat) : Bool := wi y set && !(goodS A (ahead ||| y))
def agS (A : SA) (ahead set : Nat) : Nat := lst (ntP A ahead set) (set + 1) 0
def agI (A : SA) (ahead set : Nat) : Int32 := if agS A ahead set = set + 1 then -1 else nI (ahead ||| agS A ahead set)
theorem tkS_def (A : SA) (had set : Nat) : tkS A had set = (agS A had set == set + 1) := rfl
theorem agI_m1 {A : SA} {ahead set : Nat} (ha : ahead < 128) (hs : set < 128) : agI A ahead set = -1 ↔ tkS A ahead set = true := by
  rw [tkS_def, beq_iff_eq]
  have hl := (lst_le (ntP A ahead set) (set + 1) 0).2
  unfold agI
  constructor
  · intro h
    by_cases c : agS A ahead set = set + 1
    · exact c
    · rw [if_neg c] at h
      have h2 : ahead ||| agS A ahead set < 128 := or_lt ha (by unfold agS at c ⊢; omega)
      exact absurd h (nI_ne_m1 (by omega))
  · intro h; rw [if_pos h]
theorem lng_L {h : MH} {A : SA} (hG : Gr h) (hA : OkA A) (D : Good h A) {ahead set : Nat} (ha : ahead < 128) (hs : set < 128) (wa : wi ahead (unlikeS A) = true) (ws : wi set (unlikeS A) = true) :
    ∀ (n f y : Nat), n + y = set + 1 → n < f → f_X4_leastNotGood_L2 (some (-1 : Int32)) h 103 (nI ahead) (nI set) f (nI y) = some (if lst (ntP A ahead set) n y = set + 1 then -1 else nI (ahead ||| lst (ntP A ahead set) n y))
  | 0, f, y, hn, hf => by
    obtain ⟨f, rfl⟩ : ∃ g, f = g + 1 := ⟨f - 1, by omega⟩
    rw [f_X4_leastNotGood_L2, in_lt (by omega) (by omega), if_pos (by omega), if_pos (by unfold lst; omega)]
  | n + 1, f, y, hn, hf => by
    obtain ⟨f, rfl⟩ : ∃ g, f = g + 1 := ⟨f - 1, by omega⟩
    have ih := lng_L hG hA D ha hs wa ws n f (y + 1) (by omega) (by omega)
    rw [f_X4_leastNotGood_L2, in_lt (by omega) (by omega), if_neg (by omega), it_le2 (by omega) (by decide), if_neg (by omega), isWithin_eq (by omega) hs, bS, b2_it, cl_add, lst]
    by_cases c : wi y set = true
    · have hy : wi y (unlikeS A) = true := by
        unfold wi at c ws ⊢
        rw [beq_iff_eq] at c ws ⊢
        rw [← c, Nat.and_assoc, ws]
      have eg : gdS A (ahead ||| y) = goodS A (ahead ||| y) := by unfold gdS; rw [wi_or wa hy]; rfl
      rw [if_pos c, gR_g hG (by decide) (by decide) (show gr 103 1 = some 90 from rfl), bS, nx_or, isGood_eq hG (or_lt ha (by omega)) D, bS, b2_it, eg]
      by_cases c2 : goodS A (ahead ||| y) = true
      · rw [if_pos c2, ih, show ntP A ahead set y = false by unfold ntP; rw [c2]; simp]; rfl
      · rw [if_neg c2, show ntP A ahead set y = true by unfold ntP; rw [c]; simpa using c2, if_pos rfl, if_neg (by omega)]
    · rw [if_neg c, ih, show ntP A ahead set y = false by unfold ntP; simp [c]]; rfl
theorem lng_eq {h : MH} {A : SA} (hG : Gr h) (hA : OkA A) (D : Good h A) {ahead set : Nat} (ha : ahead < 128) (hs : set < 128) (wa : wi ahead (unlikeS A) = true) (ws : wi set (unlikeS A) = true) : f_X4_leastNotGood h 103 (nI ahead) (nI set) = some (agI A ahead set) := by
  unfold f_X4_leastNotGood agI agS
  rw [gK_g hG (by decide) (by decide)]
  exact lng_L hG hA D ha hs wa ws (set + 1) fuel 0 (by omega) (by unfold fuel; omega)
def cT (t : Nat) : Int32 := if t = 99 then nI 1000 else nI t
theorem cT_lt {t b : Nat} (ht : t = 99 ∨ t ≤ 7) (hb : b = 99 ∨ b ≤ 8) : (cT b ≤ cT t + 1) ↔ ¬ (t + 1 < b) := by
  unfold cT
  rcases ht with rfl | ht
  · rcases hb with rfl | hb
    · rw [if_pos rfl, cl_add, nI_leI (by decide) (by decide)]; decide
    · rw [if_neg (by omega), if_pos rfl, cl_add, nI_leI (by omega) (by decide)]; omega
  · rcases hb with rfl | hb
    · rw [if_pos rfl, if_neg (by omega), cl_add, nI_leI (by decide) (by omega)]; omega
    · rw [if_neg (by omega), if_neg (by omega), cl_add, nI_leI (by omega) (by omega)]; omega
theorem bst_sm {v : Nat → Nat} {ok : Nat → Bool} : ∀ n, (∀ s, 1 ≤ s → s ≤ n → ok s = true → v s = 99 ∨ v s ≤ 7) → bst v ok n = 99 ∨ bst v ok n ≤ 8 := fun n h => bst_le n (fun s h1 h2 h3 => (h s h1 h2 h3).elim Or.inl (fun z => Or.inr (by omega)))
theorem ff_L {h : MH} {A : SA} (hG : Gr h) (hA : OkA A) (D : Good h A) {had : Nat} (hh : had < 128) (wh : wi had (unlikeS A) = true) (hT : ∀ y, y < 128 → wi y (unlikeS A) = true → had < y → mm_I h 104 y = cT (TS A y)) (k : Int32 → Option Int32) :
    ∀ (n f s : Nat), n + s = unlikeS A → n < f → f_X4_fewestFrom_L14 k h 103 (nI had) (nI (unlikeS A)) f (cT (bst (fun s => TS A (had ||| s)) (okS A had) s)) (nI (s + 1)) = k (cT (bst (fun s => TS A (had ||| s)) (okS A had) (unlikeS A)))
  | 0, f, s, hn, hf => by
    obtain ⟨f, rfl⟩ : ∃ g, f = g + 1 := ⟨f - 1, by omega⟩
    have hu := unlike_lt hA
    rw [f_X4_fewestFrom_L14, in_lt (by omega) (by omega), if_pos (by omega), show s = unlikeS A by omega]
  | n + 1, f, s, hn, hf => by
    obtain ⟨f, rfl⟩ : ∃ g, f = g + 1 := ⟨f - 1, by omega⟩
    have hu := unlike_lt hA
    have ih := ff_L hG hA D hh wh hT k n f (s + 1) (by omega) (by omega)
    rw [f_X4_fewestFrom_L14, in_lt (by omega) (by omega), if_neg (by omega), it_le2 (by omega) (by decide), if_neg (by omega), nx_apart hu hh, isWithin_eq (by omega) (Nat.lt_of_le_of_lt Nat.and_le_left hu), bS, b2_it, wi_apart (by omega) hu hh, cl_add]
    rw [bst] at ih
    have hbs : bst (fun s => TS A (had ||| s)) (okS A had) s = 99 ∨ bst (fun s => TS A (had ||| s)) (okS A had) s ≤ 8 := bst_sm s (fun q h1 h2 h3 => TS_small hA (or_lt hh (by omega)))
    by_cases c : (wi (s + 1) (unlikeS A) && (had &&& (s + 1) == 0)) = true
    · have c1 : wi (s + 1) (unlikeS A) = true := by simp only [Bool.and_eq_true] at c; exact c.1
      have c2 : had &&& (s + 1) = 0 := by simp only [Bool.and_eq_true, beq_iff_eq] at c; exact c.2
      have hor := or_add hh (show s + 1 < 128 by omega) c2
      have ho := or_lt hh (show s + 1 < 128 by omega)
      have hcell := hT (had ||| (s + 1)) ho (wi_or wh c1) (by omega)
      have hsm := TS_small hA ho
      rw [if_pos c, gR_g hG (by decide) (by decide) (show gr 103 2 = some 104 from rfl), bS, nx_or, aI_g hG (by decide) (by decide) (show had ||| (s + 1) < 128 from ho), bS, hcell]
      by_cases cv : TS A (had ||| (s + 1)) + 1 < bst (fun s => TS A (had ||| s)) (okS A had) s
      · rw [if_neg (fun z => (cT_lt hsm hbs).mp z cv), lng_eq hG hA D hh (by omega) wh c1, bS]
        by_cases ct : tkS A had (s + 1) = true
        · rw [if_pos ((agI_m1 hh (by omega)).mpr ct), bS, aI_g hG (by decide) (by decide) (show had ||| (s + 1) < 128 from ho), bS, hcell]
          rw [if_pos ⟨cv, by unfold okS; rw [c, ct]; rfl⟩] at ih
          have e1 : cT (TS A (had ||| (s + 1))) + 1 = cT (TS A (had ||| (s + 1)) + 1) := by
            unfold cT
            rcases hsm with e | e
            · rcases hbs with e2 | e2 <;> omega
            · rw [if_neg (by omega), if_neg (by omega), cl_add]
          rw [e1]; exact ih
        · rw [if_neg (fun z => ct ((agI_m1 hh (by omega)).mp z))]
          rw [if_neg (fun z => ct (by have := z.2; unfold okS at this; simp only [Bool.and_eq_true] at this; exact this.2))] at ih
          exact ih
      · rw [if_pos ((cT_lt hsm hbs).mpr cv)]
        rw [if_neg (fun z => cv z.1)] at ih
        exact ih
    · rw [if_neg c]
      rw [if_neg (fun z => c (by have := z.2; unfold okS at this; rw [Bool.and_eq_true] at this; exact this.1))] at ih
      exact ih
theorem ff_eq {h : MH} {A : SA} (hG : Gr h) (hA : OkA A) (D : Good h A) {had : Nat} (hh : had < 128) (wh : wi had (unlikeS A) = true) (hT : ∀ y, y < 128 → wi y (unlikeS A) = true → had < y → mm_I h 104 y = cT (TS A y)) : f_X4_fewestFrom h 103 (nI had) (nI (unlikeS A)) = some (cT (TS A had)) := by
  have hu := unlike_lt hA
  unfold f_X4_fewestFrom
  rw [gK_g hG (by decide) (by decide), in_eq (by omega) (by omega), TS_eq hA hh]
  by_cases c : had = unlikeS A
  · rw [if_pos c, if_pos c]; rfl
  · rw [if_neg c, if_neg c]
    exact ff_L hG hA D hh wh hT (fun x3e85 => some x3e85) (unlikeS A) fuel 0 (by omega) (by unfold fuel; omega)
theorem ml_L17 {A : SA} (hA : OkA A) (k : MH → Option (Int32 × MH)) :
    ∀ (x f : Nat) (h : MH), x < 128 → x + 1 < f → Gr h → Good h A → (∀ y, y < 128 → wi y (unlikeS A) = true → x < y → mm_I h 104 y = cT (TS A y)) →
      ∃ h', f_X4_makeLeast_L17 k 103 101 (nI (unlikeS A)) f h (nI x) = k h' ∧ Only h h' (fun a => a = 104) ∧ ∀ y, y < 128 → wi y (unlikeS A) = true → mm_I h' 104 y = cT (TS A y) := by
  have hu := unlike_lt hA
  intro x
  induction x with
  | zero =>
    intro f h hx hf hG D hT
    obtain ⟨f, rfl⟩ : ∃ g, f = g + 2 := ⟨f - 2, by omega⟩
    have w0 : wi 0 (unlikeS A) = true := by simp [wi]
    refine ⟨mm_si h 104 0 (cT (TS A 0)), ?_, Only.si rfl, fun y hy hw => ?_⟩
    · rw [f_X4_makeLeast_L17, it_neg (by omega), isWithin_eq (by omega) hu, bS, b2_it, if_pos w0, it_le2 (by omega) (by decide), if_neg (by omega), gR_g hG (by decide) (by decide) (show gr 103 2 = some 104 from rfl), bS, ff_eq hG hA D hx w0 hT, bS, sI_g hG (by decide) (by decide) (show 0 < 128 by decide), bS, f_X4_makeLeast_L17, if_pos (by decide)]
    · by_cases e : y = 0
      · subst e; rw [si_s]
      · rw [si_o2 e]; exact hT y hy hw (by omega)
  | succ x ih =>
    intro f h hx hf hG D hT
    obtain ⟨f, rfl⟩ : ∃ g, f = g + 1 := ⟨f - 1, by omega⟩
    rw [f_X4_makeLeast_L17, it_neg (by omega), isWithin_eq (by omega) hu, bS, b2_it, pk_m1]
    by_cases c : wi (x + 1) (unlikeS A) = true
    · have o1 : Only h (mm_si h 104 (x + 1) (cT (TS A (x + 1)))) (fun a => a = 104) := Only.si rfl
      obtain ⟨h2, e2, o2, q2⟩ := ih f (mm_si h 104 (x + 1) (cT (TS A (x + 1)))) (by omega) (by omega) hG.si (fun y hy => by rw [si_o (by decide)]; exact D y hy) (fun y hy hw hxy => by
        by_cases e : y = x + 1
        · subst e; rw [si_s]
        · rw [si_o2 e]; exact hT y hy hw (by omega))
      refine ⟨h2, ?_, o1.tr o2, q2⟩
      rw [if_pos c, it_le2 (by omega) (by decide), if_neg (by omega), gR_g hG (by decide) (by decide) (show gr 103 2 = some 104 from rfl), bS, ff_eq hG hA D hx c hT, bS, sI_g hG (by decide) (by decide) (show x + 1 < 128 by omega), bS]
      exact e2
    · obtain ⟨h2, e2, o2, q2⟩ := ih f h (by omega) (by omega) hG D (fun y hy hw hxy => by
        by_cases e : y = x + 1
        · subst e; exact absurd hw c
        · exact hT y hy hw (by omega))
      exact ⟨h2, by rw [if_neg c]; exact e2, o2, q2⟩
/-- the plan as a list -/
def PlanIs (h : MH) (l : List Nat) : Prop := mm_I h 101 1 = nI l.length ∧ l.length ≤ 7 ∧ ∀ (i s : Nat), l[i]? = some s → mm_I h 102 i = nI s
def PlS (a : Nat) : Prop := a = 101 ∨ a = 102
theorem add_eq {h : MH} {l : List Nat} {s : Nat} (hG : Gr h) (P : PlanIs h l) (hl : l.length < 7) : ∃ h', f_X3_add h 101 (nI s) = some h' ∧ Only h h' PlS ∧ PlanIs h' (l ++ [s]) := by
  obtain ⟨p1, p2, p3⟩ := P
  refine ⟨mm_si (mm_si h 102 l.length (nI s)) 101 1 (nI (l.length + 1)), ?_, (Only.si (Or.inr rfl)).tr (Only.si (Or.inl rfl)), by rw [si_s]; simp, by simp; omega, fun i t hi => ?_⟩
  · unfold f_X3_add
    rw [gK_g hG (by decide) (by decide), gI_g hG (by decide) (by decide), bS, p1, it_le2 (by omega) (by decide), if_neg (by omega), gR_g hG (by decide) (by decide) (show gr 101 0 = some 102 from rfl), bS, bS, sI_g hG (by decide) (by decide) (show l.length < 7 from hl), bS, gI_g hG.si (by decide) (by decide), bS, si_o (by decide), p1, cl_add, pI_g hG.si (by decide) (by decide), bS]
  · rw [si_o (by decide)]
    by_cases ei : i = l.length
    · subst ei
      rw [List.getElem?_append_right (Nat.le_refl _)] at hi
      simp at hi
      rw [si_s, hi]
    · rw [si_o2 ei]
      refine p3 i t ?_
      have hlt : i < (l ++ [s]).length := (List.getElem?_eq_some_iff.mp hi).1
      simp at hlt
      rw [List.getElem?_append_left (by omega)] at hi
      exact hi
theorem clearP_eq {h : MH} (hG : Gr h) : ∃ h', f_X3_clear h 101 = some h' ∧ Only h h' PlS ∧ PlanIs h' [] := by
  refine ⟨mm_si h 101 1 0, ?_, Only.si (Or.inl rfl), by rw [si_s]; rfl, by simp, fun i s hi => by simp at hi⟩
  unfold f_X3_clear
  rw [gK_g hG (by decide) (by decide), pI_g hG (by decide) (by decide), bS]
theorem lr_L {h : MH} {A : SA} (hG : Gr h) (hA : OkA A) (D : Good h A) (hT : ∀ y, y < 128 → wi y (unlikeS A) = true → mm_I h 104 y = cT (TS A y)) {had : Nat} (hh : had < 128) (wh : wi had (unlikeS A) = true) (ht : TS A had < 99) (k : Option Int32) :
    ∀ (n f s : Nat), n + s = unlikeS A + 1 → n < f → 1 ≤ s → lst (nxP A had) n s < s + n → f_X4_leastRound_L2 k h 103 (nI had) (nI (unlikeS A)) f (nI s) = some (nI (lst (nxP A had) n s))
  | 0, f, s, hn, hf, h1, hl => by simp [lst] at hl
  | n + 1, f, s, hn, hf, h1, hl => by
    obtain ⟨f, rfl⟩ : ∃ g, f = g + 1 := ⟨f - 1, by omega⟩
    have hu := unlike_lt hA
    rw [lst] at hl ⊢
    rw [f_X4_leastRound_L2, in_lt (by omega) (by omega), if_neg (by omega), it_le2 (by omega) (by decide), if_neg (by omega), nx_apart hu hh, isWithin_eq (by omega) (Nat.lt_of_le_of_lt Nat.and_le_left hu), bS, b2_it, wi_apart (by omega) hu hh, cl_add]
    have go : nxP A had s = false → f_X4_leastRound_L2 k h 103 (nI had) (nI (unlikeS A)) f (nI (s + 1)) = some (nI (if nxP A had s = true then s else lst (nxP A had) n (s + 1))) := by
      intro e
      rw [if_neg (by rw [e]; decide)] at hl ⊢
      exact lr_L hG hA D hT hh wh ht k n f (s + 1) (by omega) (by omega) (by omega) (by omega)
    by_cases c : (wi s (unlikeS A) && (had &&& s == 0)) = true
    · have c1 : wi s (unlikeS A) = true := by simp only [Bool.and_eq_true] at c; exact c.1
      have ho := or_lt hh (show s < 128 by omega)
      have hsm := TS_small hA ho
      have hsm2 := TS_small hA hh
      rw [if_pos c, gR_g hG (by decide) (by decide) (show gr 103 2 = some 104 from rfl), bS, nx_or, aI_g hG (by decide) (by decide) (show had ||| s < 128 from ho), bS, hT _ ho (wi_or wh c1), bS, aI_g hG (by decide) (by decide) (show had < 128 from hh), bS, hT had hh wh]
      have ev : (cT (TS A (had ||| s)) + 1 = cT (TS A had)) ↔ (TS A (had ||| s) + 1 = TS A had) := by
        unfold cT
        rw [if_neg (show ¬ TS A had = 99 by omega)]
        rcases hsm with e | e
        · rw [e, if_pos rfl, cl_add, nI_eq (by decide) (by omega)]
          constructor <;> intro z <;> omega
        · rw [if_neg (by omega), cl_add, nI_eq (by omega) (by omega)]
      by_cases cv : TS A (had ||| s) + 1 = TS A had
      · rw [if_pos (ev.mpr cv), lng_eq hG hA D hh (by omega) wh c1, bS]
        by_cases ct : tkS A had s = true
        · rw [if_pos ((agI_m1 hh (by omega)).mpr ct), if_pos (by unfold nxP okS; rw [c, ct]; simpa using cv)]
        · rw [if_neg (fun z => ct ((agI_m1 hh (by omega)).mp z))]
          exact go (by unfold nxP okS; simp [ct])
      · rw [if_neg (fun z => cv (ev.mp z))]
        exact go (by unfold nxP; simp [cv])
    · rw [if_neg c]
      exact go (by unfold nxP okS; simp only [Bool.not_eq_true] at c; rw [c]; rfl)
theorem lr_eq {h : MH} {A : SA} (hG : Gr h) (hA : OkA A) (D : Good h A) (hT : ∀ y, y < 128 → wi y (unlikeS A) = true → mm_I h 104 y = cT (TS A y)) {had : Nat} (hh : had < 128) (wh : wi had (unlikeS A) = true) (hne : had ≠ unlikeS A) (ht : TS A had < 99) : f_X4_leastRound h 103 (nI had) (nI (unlikeS A)) = some (nI (nxS A had)) := by
  have hu := unlike_lt hA
  have hx := nxS_ok hA hh hne ht
  unfold f_X4_leastRound
  rw [gK_g hG (by decide) (by decide), show (1 : Int32) = nI 1 from rfl]
  exact lr_L hG hA D hT hh wh ht _ (unlikeS A) fuel 1 (by omega) (by unfold fuel; omega) (by omega) (by have := hx.2.1; unfold nxS at this; omega)
theorem nx_wi {A : SA} {had : Nat} (hx : nxP A had (nxS A had) = true) : wi (nxS A had) (unlikeS A) = true ∧ had &&& nxS A had = 0 ∧ TS A (had ||| nxS A had) + 1 = TS A had := by
  unfold nxP okS at hx
  simp only [Bool.and_eq_true, beq_iff_eq] at hx
  exact ⟨hx.1.1.1, hx.1.1.2, hx.2⟩
theorem ml_L77 {A : SA} (hA : OkA A) (k : MH → Option (Int32 × MH)) :
    ∀ (n f : Nat) (h : MH) (l : List Nat) (had : Nat), n + l.length = 7 → n < f → Gr h → Good h A → (∀ y, y < 128 → wi y (unlikeS A) = true → mm_I h 104 y = cT (TS A y)) → PlanIs h l → had < 128 → wi had (unlikeS A) = true → TS A had ≤ n →
      ∃ h', f_X4_makeLeast_L77 k 103 101 (nI (unlikeS A)) f h (nI had) (nI l.length) = k h' ∧ Only h h' PlS ∧ PlanIs h' (l ++ plS A n had) := by
  have hu := unlike_lt hA
  intro n
  induction n with
  | zero =>
    intro f h l had hn hf hG D hT P hh wh ht
    obtain ⟨f, rfl⟩ : ∃ g, f = g + 1 := ⟨f - 1, by omega⟩
    refine ⟨h, ?_, Only.rf, by simpa [plS] using P⟩
    rw [f_X4_makeLeast_L77, it_le2 (by omega) (by decide), if_pos (by omega)]
  | succ n ih =>
    intro f h l had hn hf hG D hT P hh wh ht
    obtain ⟨f, rfl⟩ : ∃ g, f = g + 1 := ⟨f - 1, by omega⟩
    rw [f_X4_makeLeast_L77, it_le2 (by omega) (by decide), if_neg (by omega), in_eq (by omega) (by omega), plS]
    by_cases c : had = unlikeS A
    · refine ⟨h, by rw [if_pos c], Only.rf, by simpa [c] using P⟩
    · have ht9 : TS A had < 99 := by omega
      have hx := nxS_ok hA hh c ht9
      have hw := nx_wi hx.2.2
      obtain ⟨h1, e1, o1, P1⟩ := add_eq (s := nxS A had) hG P (by omega)
      have hlen : (l ++ [nxS A had]).length = l.length + 1 := by simp
      obtain ⟨h2, e2, o2, P2⟩ := ih f h1 (l ++ [nxS A had]) (had ||| nxS A had) (by rw [hlen]; omega) (by omega) (o1.Gr hG) (fun y hy => by rw [o1.2.2.2.2.2 93 (by unfold PlS; omega)]; exact D y hy) (fun y hy hwy => by rw [o1.2.2.2.2.2 104 (by unfold PlS; omega)]; exact hT y hy hwy) P1 (or_lt hh (by omega)) (wi_or wh hw.1) (by omega)
      refine ⟨h2, ?_, o1.tr o2, by rw [if_neg c]; simpa using P2⟩
      rw [if_neg c, lr_eq hG hA D hT hh wh c ht9, bS, e1, bS, nx_or, cl_add]
      rw [hlen] at e2
      exact e2

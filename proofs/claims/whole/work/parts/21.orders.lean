/-! ===== the class's orders ===== -/
theorem OS_le {A : SA} (hA : OkA A) : ∀ (n had : Nat), had < 128 → 7 - pc had ≤ n → OS A had ≤ 7 ^ n
  | 0, had, hh, hn => by
    have e : ∀ m, m < 128 → 7 ≤ pc m → m = 127 := by decide +kernel
    have hm := e had hh (by omega)
    subst hm
    rw [OS_eq hA hh]
    have hb : ∀ s, s < 7 → byS A (OS A) 127 s = 0 := by
      intro s hs
      have q : ∀ s, s < 7 → 127 ||| 2 ^ s = 127 := by decide +kernel
      unfold byS; rw [if_pos (Or.inl (q s hs))]
    have hz : smS (byS A (OS A) 127) 7 = 0 := by
      simp [smS, hb]
    split
    · split
      · decide
      · rw [hz]; decide
    · decide
  | n + 1, had, hh, hn => by
    rw [OS_eq hA hh]
    have hp : 1 ≤ 7 ^ n := Nat.one_le_pow _ _ (by decide)
    have hb : ∀ s, s < 7 → byS A (OS A) had s ≤ 7 ^ n := by
      intro s hs
      unfold byS
      split
      · omega
      · rename_i c
        have q : ∀ a, a < 128 → ∀ s, s < 7 → ¬ a ||| 2 ^ s = a → pc a + 1 ≤ pc (a ||| 2 ^ s) := by decide +kernel
        have h1 := q had hh s hs (fun z => c (Or.inl z))
        exact OS_le hA n (had ||| 2 ^ s) (or_gt hh hs).2 (by omega)
    have h0 := hb 0 (by decide)
    have h1 := hb 1 (by decide)
    have h2 := hb 2 (by decide)
    have h3 := hb 3 (by decide)
    have h4 := hb 4 (by decide)
    have h5 := hb 5 (by decide)
    have h6 := hb 6 (by decide)
    have e7 : 7 ^ (n + 1) = 7 * 7 ^ n := by rw [Nat.pow_succ, Nat.mul_comm]
    rw [e7]
    split
    · split
      · omega
      · simp only [smS]; omega
    · omega
theorem OS_lt {A : SA} (hA : OkA A) {had : Nat} (hh : had < 128) : OS A had < 2 ^ 30 := Nat.lt_of_le_of_lt (OS_le hA 7 had hh (by omega)) (by decide)
theorem by_lt {A : SA} (hA : OkA A) {had s : Nat} (hh : had < 128) (hs : s < 7) : byS A (OS A) had s < 2 ^ 30 := by
  unfold byS
  split
  · decide
  · exact OS_lt hA (or_gt hh hs).2
def OTab (h : MH) (A : SA) (x : Nat) : Prop := ∀ y, y < 128 → wi y (unlikeS A) = true → x ≤ y → mm_I h 105 y = nI (OS A y)
theorem oby_eq {h : MH} {A : SA} (hG : Gr h) (hA : OkA A) {had s : Nat} (hh : had < 128) (hs : s < 7) (T : OTab h A (had + 1)) : f_X4_orderingsBy h 103 (nI had) (nI s) (nI (unlikeS A)) = some (nI (byS A (OS A) had s)) := by
  have hu := unlike_lt hA
  have ho := or_gt hh hs
  unfold f_X4_orderingsBy byS
  rw [gK_g hG (by decide) (by decide), nx_shl hs, nx_or, in_eq (by omega) (by omega)]
  by_cases c : had ||| 2 ^ s = had
  · rw [if_pos c, if_pos (Or.inl c)]; rfl
  · rw [if_neg c, isWithin_eq ho.2 hu, bS, b2_it]
    by_cases c2 : wi (had ||| 2 ^ s) (unlikeS A) = true
    · rw [if_pos c2, it_lt1 (by omega) (by decide), if_pos ho.2, gR_g hG (by decide) (by decide) (show gr 103 3 = some 105 from rfl), bS, aI_g hG (by decide) (by decide) (show had ||| 2 ^ s < 128 from ho.2), bS, T _ ho.2 c2 (by rcases ho.1 with z | z; exact absurd z c; omega), if_neg (fun z => z.elim c (fun z => by rw [c2] at z; cases z))]
    · rw [if_neg c2, if_pos (Or.inr (by simpa using c2))]; rfl
theorem ofr_L {h : MH} {A : SA} (hG : Gr h) (hA : OkA A) {had : Nat} (hh : had < 128) (T : OTab h A (had + 1)) (k : Int32 → Option Int32) :
    ∀ (n f s : Nat), n + s = 7 → n < f → f_X4_orderingsFrom_L25 k h 103 (nI had) (nI (unlikeS A)) f (nI (smS (byS A (OS A) had) s)) (nI s) = k (nI (smS (byS A (OS A) had) 7))
  | 0, f, s, hn, hf => by
    obtain ⟨f, rfl⟩ : ∃ g, f = g + 1 := ⟨f - 1, by omega⟩
    rw [f_X4_orderingsFrom_L25, it_le2 (by omega) (by decide), if_pos (by omega), show s = 7 by omega]
  | n + 1, f, s, hn, hf => by
    obtain ⟨f, rfl⟩ : ∃ g, f = g + 1 := ⟨f - 1, by omega⟩
    have ih := ofr_L hG hA hh T k n f (s + 1) (by omega) (by omega)
    rw [f_X4_orderingsFrom_L25, it_le2 (by omega) (by decide), if_neg (by omega), oby_eq hG hA hh (by omega) T, bS, nI_add, cl_add]
    exact ih
theorem ofr_eq {h : MH} {A : SA} (hG : Gr h) (hA : OkA A) (D : Good h A) {had : Nat} (hh : had < 128) (wh : wi had (unlikeS A) = true) (T : OTab h A (had + 1)) : f_X4_orderingsFrom h 103 (nI had) (nI (unlikeS A)) = some (nI (OS A had)) := by
  have hu := unlike_lt hA
  have eg : gdS A had = goodS A had := by unfold gdS; rw [wh]; rfl
  unfold f_X4_orderingsFrom
  rw [gK_g hG (by decide) (by decide), gR_g hG (by decide) (by decide) (show gr 103 1 = some 90 from rfl), bS, isGood_eq hG hh D, bS, b2_it, eg, in_eq (by omega) (by omega), OS_eq hA hh]
  by_cases c : goodS A had = true
  · rw [if_pos c, if_pos c]
    by_cases c2 : had = unlikeS A
    · rw [if_pos c2, if_pos c2]; rfl
    · rw [if_neg c2, if_neg c2]
      exact ofr_L hG hA hh T (fun x3e49 => some x3e49) 7 fuel 0 rfl (by decide)
  · rw [if_neg c, if_neg c]; rfl
theorem fo_L {A : SA} (hA : OkA A) (k : MH → Option (Int32 × MH)) :
    ∀ (x f : Nat) (h : MH), x < 128 → x + 1 < f → Gr h → Good h A → OTab h A (x + 1) →
      ∃ h', f_X4_findOrderings_L2 k 103 (nI (unlikeS A)) f h (nI x) = k h' ∧ Only h h' (fun a => a = 105) ∧ OTab h' A 0 := by
  have hu := unlike_lt hA
  intro x
  induction x with
  | zero =>
    intro f h hx hf hG D hT
    obtain ⟨f, rfl⟩ : ∃ g, f = g + 2 := ⟨f - 2, by omega⟩
    have w0 : wi 0 (unlikeS A) = true := by simp [wi]
    refine ⟨mm_si h 105 0 (nI (OS A 0)), ?_, Only.si rfl, fun y hy hw hx0 => ?_⟩
    · rw [f_X4_findOrderings_L2, it_neg (by omega), isWithin_eq (by omega) hu, bS, b2_it, if_pos w0, it_le2 (by omega) (by decide), if_neg (by omega), gR_g hG (by decide) (by decide) (show gr 103 3 = some 105 from rfl), bS, ofr_eq hG hA D hx w0 hT, bS, sI_g hG (by decide) (by decide) (show 0 < 128 by decide), bS, f_X4_findOrderings_L2, if_pos (by decide)]
    · by_cases e : y = 0
      · subst e; rw [si_s]
      · rw [si_o2 e]; exact hT y hy hw (by omega)
  | succ x ih =>
    intro f h hx hf hG D hT
    obtain ⟨f, rfl⟩ : ∃ g, f = g + 1 := ⟨f - 1, by omega⟩
    rw [f_X4_findOrderings_L2, it_neg (by omega), isWithin_eq (by omega) hu, bS, b2_it, pk_m1]
    by_cases c : wi (x + 1) (unlikeS A) = true
    · have o1 : Only h (mm_si h 105 (x + 1) (nI (OS A (x + 1)))) (fun a => a = 105) := Only.si rfl
      obtain ⟨h2, e2, o2, q2⟩ := ih f (mm_si h 105 (x + 1) (nI (OS A (x + 1)))) (by omega) (by omega) hG.si (fun y hy => by rw [si_o (by decide)]; exact D y hy) (fun y hy hw hxy => by
        by_cases e : y = x + 1
        · subst e; rw [si_s]
        · rw [si_o2 e]; exact hT y hy hw (by omega))
      refine ⟨h2, ?_, o1.tr o2, q2⟩
      rw [if_pos c, it_le2 (by omega) (by decide), if_neg (by omega), gR_g hG (by decide) (by decide) (show gr 103 3 = some 105 from rfl), bS, ofr_eq hG hA D hx c hT, bS, sI_g hG (by decide) (by decide) (show x + 1 < 128 by omega), bS]
      exact e2
    · obtain ⟨h2, e2, o2, q2⟩ := ih f h (by omega) (by omega) hG D (fun y hy hw hxy => by
        by_cases e : y = x + 1
        · subst e; exact absurd hw c
        · exact hT y hy hw (by omega))
      exact ⟨h2, by rw [if_neg c]; exact e2, o2, q2⟩
theorem fo_eq {h : MH} {A : SA} (hG : Gr h) (hA : OkA A) (D : Good h A) : ∃ h', f_X4_findOrderings h 103 (nI (unlikeS A)) = some (nI (OS A 0), h') ∧ Only h h' (fun a => a = 105) ∧ OTab h' A 0 := by
  have hu := unlike_lt hA
  obtain ⟨h1, e1, o1, q1⟩ := fo_L hA (fun he39 => (gR he39 103 4 3).bind fun b40 => (aI he39 b40 (0 : Int32)).bind fun v44 => some (v44, he39)) (unlikeS A) fuel h hu (by unfold fuel; omega) hG D (fun y hy hw hxy => by have := wi_le hw; omega)
  have G1 := o1.Gr hG
  refine ⟨h1, ?_, o1, q1⟩
  unfold f_X4_findOrderings
  rw [gK_g hG (by decide) (by decide), e1, gR_g G1 (by decide) (by decide) (show gr 103 3 = some 105 from rfl), bS, aI_lit, aI_g G1 (by decide) (by decide) (show 0 < 128 by decide), bS, q1 0 (by decide) (by simp [wi]) (Nat.le_refl _)]
/-- the switch in which the r-th order goes on -/
def pick (f : Nat → Nat) : Nat → Nat → Nat → Nat × Nat
  | 0, s, r => (s, r)
  | n + 1, s, r => if r < f s then (s, r) else pick f n (s + 1) (r - f s)
def smF (f : Nat → Nat) : Nat → Nat → Nat
  | 0, _ => 0
  | n + 1, s => f s + smF f n (s + 1)
theorem smF_7 (f : Nat → Nat) : smF f 7 0 = smS f 7 := by simp [smF, smS]; omega
theorem pick_ok {f : Nat → Nat} : ∀ (n s r : Nat), r < smF f (n + 1) s → s ≤ (pick f n s r).1 ∧ (pick f n s r).1 ≤ s + n ∧ (pick f n s r).2 < f (pick f n s r).1 ∧ (pick f n s r).2 ≤ r
  | 0, s, r, h => by simp [smF] at h; simp [pick, h]
  | n + 1, s, r, h => by
    rw [pick]
    split
    · rename_i c; exact ⟨Nat.le_refl _, by omega, c, Nat.le_refl _⟩
    · rename_i c
      rw [smF] at h
      have := pick_ok (f := f) n (s + 1) (r - f s) (by omega)
      omega
def ordS (A : SA) : Nat → Nat → Nat → List Nat
  | 0, _, _ => []
  | n + 1, had, r => if had = unlikeS A then [] else 2 ^ (pick (byS A (OS A) had) 6 0 r).1 :: ordS A n (had ||| 2 ^ (pick (byS A (OS A) had) 6 0 r).1) (pick (byS A (OS A) had) 6 0 r).2
theorem mo_L59 {h : MH} {A : SA} (hG : Gr h) (hA : OkA A) {had : Nat} (hh : had < 128) (T : OTab h A 0) (k : Int32 → Int32 → Option (Int32 × MH)) {x6 : Int32} :
    ∀ (n f s r : Nat), n + s = 6 → n < f → r < 2 ^ 30 → f_X4_makeOrder_L59 k h 103 101 (nI (unlikeS A)) (nI had) x6 f (nI r) (nI s) = k (nI (pick (byS A (OS A) had) n s r).2) (nI (pick (byS A (OS A) had) n s r).1)
  | 0, f, s, r, hn, hf, hr => by
    obtain ⟨f, rfl⟩ : ∃ g, f = g + 1 := ⟨f - 1, by omega⟩
    rw [f_X4_makeOrder_L59, cl_add, it_le2 (by omega) (by decide), if_pos (by omega), pick]
  | n + 1, f, s, r, hn, hf, hr => by
    obtain ⟨f, rfl⟩ : ∃ g, f = g + 1 := ⟨f - 1, by omega⟩
    have hb := by_lt hA hh (show s < 7 by omega)
    rw [f_X4_makeOrder_L59, cl_add, it_le2 (by omega) (by decide), if_neg (by omega), oby_eq hG hA hh (by omega) (fun y hy hw _ => T y hy hw (Nat.zero_le _)), bS, in_lt (by omega) (by omega), bS, pick]
    split
    · rfl
    · rename_i c
      rw [pk_sub (by omega)]
      exact mo_L59 hG hA hh T k n f (s + 1) (r - byS A (OS A) had s) (by omega) (by omega) (by omega)
theorem pick_by {A : SA} (hA : OkA A) {had r : Nat} (hh : had < 128) (hne : had ≠ unlikeS A) (hr : r < OS A had) : (pick (byS A (OS A) had) 6 0 r).1 < 7 ∧ had ||| 2 ^ (pick (byS A (OS A) had) 6 0 r).1 < 128 ∧ wi (had ||| 2 ^ (pick (byS A (OS A) had) 6 0 r).1) (unlikeS A) = true ∧ (pick (byS A (OS A) had) 6 0 r).2 < OS A (had ||| 2 ^ (pick (byS A (OS A) had) 6 0 r).1) ∧ pc had + 1 ≤ pc (had ||| 2 ^ (pick (byS A (OS A) had) 6 0 r).1) ∧ goodS A had = true ∧ had ||| 2 ^ (pick (byS A (OS A) had) 6 0 r).1 ≠ had := by
  have e := OS_eq hA hh
  have hg : goodS A had = true := by
    by_cases c : goodS A had = true
    · exact c
    · rw [if_neg c] at e; omega
  rw [if_pos hg, if_neg hne] at e
  have hp := pick_ok (f := byS A (OS A) had) 6 0 r (by rw [smF_7]; omega)
  generalize pick (byS A (OS A) had) 6 0 r = q at hp ⊢
  obtain ⟨s, r'⟩ := q
  simp only at hp ⊢
  have hs : s < 7 := by omega
  have ho := or_gt hh hs
  have hb := hp.2.2.1
  unfold byS at hb
  by_cases c : (had ||| 2 ^ s = had) ∨ wi (had ||| 2 ^ s) (unlikeS A) = false
  · rw [if_pos c] at hb; omega
  · rw [if_neg c] at hb
    have q : ∀ a, a < 128 → ∀ s, s < 7 → ¬ a ||| 2 ^ s = a → pc a + 1 ≤ pc (a ||| 2 ^ s) := by decide +kernel
    refine ⟨hs, ho.2, ?_, hb, q had hh s hs (fun z => c (Or.inl z)), hg, fun z => c (Or.inl z)⟩
    cases hw : wi (had ||| 2 ^ s) (unlikeS A) with
    | true => rfl
    | false => exact absurd (Or.inr hw) c
theorem mo_L43 {A : SA} (hA : OkA A) (k : MH → Option (Int32 × MH)) :
    ∀ (n f : Nat) (h : MH) (l : List Nat) (had r : Nat), n + l.length = 7 → n < f → Gr h → OTab h A 0 → PlanIs h l → had < 128 → wi had (unlikeS A) = true → l.length ≤ pc had → r < OS A had →
      ∃ h', f_X4_makeOrder_L43 k 103 101 (nI (unlikeS A)) f h (nI had) (nI r) (nI l.length) = k h' ∧ Only h h' PlS ∧ PlanIs h' (l ++ ordS A n had r) := by
  have hu := unlike_lt hA
  intro n
  induction n with
  | zero =>
    intro f h l had r hn hf hG T P hh wh hpc hr
    obtain ⟨f, rfl⟩ : ∃ g, f = g + 1 := ⟨f - 1, by omega⟩
    refine ⟨h, ?_, Only.rf, by simpa [ordS] using P⟩
    rw [f_X4_makeOrder_L43, it_le2 (by omega) (by decide), if_pos (by omega)]
  | succ n ih =>
    intro f h l had r hn hf hG T P hh wh hpc hr
    obtain ⟨f, rfl⟩ : ∃ g, f = g + 1 := ⟨f - 1, by omega⟩
    rw [f_X4_makeOrder_L43, it_le2 (by omega) (by decide), if_neg (by omega), in_eq (by omega) (by omega), ordS]
    by_cases c : had = unlikeS A
    · refine ⟨h, by rw [if_pos c], Only.rf, by simpa [c] using P⟩
    · have hb := pick_by hA hh c hr
      have hos := OS_lt hA hh
      rw [if_neg c, show (0 : Int32) = nI 0 from rfl, mo_L59 hG hA hh T _ 6 fuel 0 r rfl (by decide) (by omega)]
      generalize pick (byS A (OS A) had) 6 0 r = q at hb ⊢
      obtain ⟨s, r'⟩ := q
      simp only at hb ⊢
      obtain ⟨h1, e1, o1, P1⟩ := add_eq (s := 2 ^ s) hG P (by omega)
      have hlen : (l ++ [2 ^ s]).length = l.length + 1 := by simp
      obtain ⟨h2, e2, o2, P2⟩ := ih f h1 (l ++ [2 ^ s]) (had ||| 2 ^ s) r' (by rw [hlen]; omega) (by omega) (o1.Gr hG) (fun y hy hw hx => by rw [o1.2.2.2.2.2 105 (by unfold PlS; omega)]; exact T y hy hw hx) P1 hb.2.1 hb.2.2.1 (by rw [hlen]; omega) hb.2.2.2.1
      refine ⟨h2, ?_, o1.tr o2, by rw [if_neg c]; simpa using P2⟩
      rw [nx_shl hb.1, e1, bS, nx_or, cl_add]
      rw [hlen] at e2
      exact e2

/-! ===== the reference: the orders ===== -/
/-- the mixture of all unlike switches is as the new book -/
theorem bit_all {n s : Nat} (hn : n ≤ 7) (hs : s < n) : bit (2 ^ n - 1) s = 1 := by
  have q : ∀ n, n ≤ 7 → ∀ s, s < n → bit (2 ^ n - 1) s = 1 := by decide +kernel
  exact q n hn s hs
theorem bit_or2 {m s t : Nat} (hm : m < 128) (hs : s < 7) (ht : t < 7) : bit (m ||| 2 ^ s) t = if t = s then 1 else bit m t := by
  have q : ∀ m, m < 128 → ∀ s, s < 7 → ∀ t, t < 7 → bit (m ||| 2 ^ s) t = if t = s then 1 else bit m t := by decide +kernel
  exact q m hm s hs t ht
theorem bit_unl (A : SA) : ∀ n, n ≤ 7 → ∀ t, t < 7 → bit (unlS A n) t = if t < n ∧ sameS A t = false then 1 else 0
  | 0, _, t, _ => by simp [unlS, bit]
  | n + 1, hn, t, ht => by
    have ih := bit_unl A n (by omega) t ht
    have hl : unlS A n < 128 := Nat.lt_of_lt_of_le (unl_lt A n) (Nat.pow_le_pow_right (by decide) (show n ≤ 7 by omega))
    rw [unlS]
    cases hs : sameS A n with
    | true =>
      rw [if_pos rfl, ih]
      by_cases c : t = n
      · subst c; simp [hs]
      · by_cases c2 : t < n
        · simp [c2, show t < n + 1 by omega]
        · simp [c2, show ¬ t < n + 1 by omega]
    | false =>
      rw [if_neg (by decide), bit_or2 hl (by omega) ht, ih]
      by_cases c : t = n
      · subst c; simp [hs]
      · by_cases c2 : t < n
        · simp [c, c2, show t < n + 1 by omega]
        · simp [c, c2, show ¬ t < n + 1 by omega]
theorem actP_cg {c d : Nat → Nat → Nat} {m : Nat} : ∀ n, (∀ i, i < n → ∀ j, j < 4 → c i j = d i j) → actP c m n = actP d m n
  | 0, _ => rfl
  | n + 1, h => by
    rw [actP, actP, actP_cg n (fun i hi => h i (by omega)), h n (by omega) 0 (by decide), h n (by omega) 1 (by decide), h n (by omega) 2 (by decide), h n (by omega) 3 (by decide)]
theorem act_same {A : SA} {s m : Nat} (h : sameS A s = true) : actS A s m = actS A (7 + s) m := by
  obtain ⟨h1, h2⟩ := (sameS_iff A s).mp h
  show (actP (sd A s) m (sc A s)).2 = (actP (sd A (7 + s)) m (sc A (7 + s))).2
  rw [← h1, actP_cg (sc A s) h2]
theorem go_unlike {A : SA} (hA : OkA A) {m s : Nat} (hs : s < sn A) : goS A (unlikeS A) m s = goS A (allS A) m s := by
  have h7 := hA.2.1
  have e1 : bit (allS A) s = 1 := bit_all h7 hs
  have e2 : bit (unlikeS A) s = if s < sn A ∧ sameS A s = false then 1 else 0 := bit_unl A (sn A) h7 s (by omega)
  have e3 : actS A (7 * bit (unlikeS A) s + s) m = actS A (7 * bit (allS A) s + s) m := by
    rw [e1, e2]
    cases c : sameS A s with
    | true => rw [if_neg (by simp)]; simpa using act_same c
    | false => rw [if_pos ⟨hs, rfl⟩]
  unfold goS
  rw [e3]
/-- a way stays within the net -/
def InN (A : SA) : Prop := (∀ k, k < 28 → 1 ≤ sp A k → sp A k ≤ 28 → (sp A k - 1) / 4 < sn A) ∧ ∀ i, i < sh A → sq A i / 4 < sn A
theorem wk_cong {g g' : Nat → Nat} {N : Nat} (he : ∀ s, s < N → g s = g' s) (hin : ∀ s, s < N → g s < 100 → g s < N) : ∀ n p s, s < N → wkS g n p s = wkS g' n p s
  | 0, _, _, _ => rfl
  | n + 1, p, s, hs => by
    rw [wkS, wkS, ← he s hs]
    by_cases c : 100 ≤ g s
    · rw [if_pos c, if_pos c]
    · rw [if_neg c, if_neg c, wk_cong he hin n (p ++ [s]) (g s) (hin s hs (by omega))]
theorem go_in {A : SA} (hA : OkA A) (hI : InN A) {mix m s : Nat} (hs : s < sn A) (hl : goS A mix m s < 100) : goS A mix m s < sn A := by
  have h7 := hA.2.1
  have hb := bit_lt mix s
  have ha := actS_le hA (r := 7 * bit mix s + s) (m := m) (by omega)
  unfold goS at hl ⊢
  by_cases c1 : actS A (7 * bit mix s + s) m = 4
  · rw [if_pos c1] at hl; omega
  · rw [if_neg c1] at hl ⊢
    have hk := hA.2.2.2.1 (4 * s + actS A (7 * bit mix s + s) m) (by omega)
    have hi := hI.1 (4 * s + actS A (7 * bit mix s + s) m) (by omega)
    by_cases c2 : sp A (4 * s + actS A (7 * bit mix s + s) m) = 0
    · rw [if_pos c2] at hl; omega
    · rw [if_neg c2] at hl ⊢
      by_cases c3 : 100 ≤ sp A (4 * s + actS A (7 * bit mix s + s) m)
      · rw [if_pos c3] at hl; omega
      · rw [if_neg c3] at hl ⊢
        exact hi (by omega) (by omega)
theorem way_unlike {A : SA} (hA : OkA A) (hI : InN A) {x m : Nat} (hx : x < sh A) : wayS A (unlikeS A) x m = wayS A (allS A) x m :=
  wk_cong (N := sn A) (fun s hs => go_unlike hA hs) (fun s hs hl => go_in hA hI hs hl) 7 [] _ (hI.2 x hx)
theorem good_unlike {A : SA} (hA : OkA A) (hI : InN A) : goodS A (unlikeS A) = true := by
  rw [goodS_iff]
  intro i hi hk
  obtain ⟨-, -, -, ⟨a, has, ha⟩, -⟩ := hA.2.2.2.2.2.2.2 i hi
  have h6 := hA.2.2.1
  have hcl : (sx A i 3).toNatClampNeg = a := by rw [ha, nI_clamp (by omega)]
  unfold keptS at hk
  simp only [Bool.and_eq_true, beq_iff_eq] at hk
  have e : ∀ m, badP A i (unlikeS A) m = badP A i (allS A) m := fun m => by
    unfold badP
    rw [hcl, way_unlike hA hI has]
  have := hk.2
  rw [bad16_iff] at this ⊢
  exact fun m hm => by rw [e]; exact this m hm
/-- what stands in the table of orders while the value of had is sought -/
def curO (A : SA) (had s : Nat) : Nat := if had = unlikeS A then 1 else if goodS A had = true then smS (byS A (OS A) had) s else 0
theorem smS_ext {f : Nat → Nat} {u : Nat} (h : ∀ s, u ≤ s → s < 7 → f s = 0) : ∀ n, u + n ≤ 7 → smS f (u + n) = smS f u
  | 0, _ => rfl
  | n + 1, hn => by
    rw [show u + (n + 1) = (u + n) + 1 by omega, smS, h (u + n) (by omega) (by omega), smS_ext h n (by omega)]; omega
theorem pow_out {A : SA} (hA : OkA A) {had s : Nat} (h1 : sn A ≤ s) (hs : s < 7) : wi (had ||| 2 ^ s) (unlikeS A) = false := by
  have hu := unlike_all (A := A)
  have hp := all_pow hA
  cases hq : wi (had ||| 2 ^ s) (unlikeS A) with
  | false => rfl
  | true =>
    have h2 := wi_le hq
    have h3 : 2 ^ s ≤ had ||| 2 ^ s := Nat.right_le_or
    have h4 : 2 ^ sn A ≤ 2 ^ s := Nat.pow_le_pow_right (by decide) h1
    omega
theorem curO_end {A : SA} (hA : OkA A) (hI : InN A) {had : Nat} (hh : had < 128) : curO A had (sn A) = OS A had := by
  have h7 := hA.2.1
  rw [OS_eq hA hh]
  unfold curO
  by_cases c : had = unlikeS A
  · rw [if_pos c, c, if_pos (good_unlike hA hI), if_pos rfl]
  · rw [if_neg c, if_neg c]
    have := smS_ext (f := byS A (OS A) had) (u := sn A) (fun s h1 hs => by unfold byS; rw [if_pos (Or.inr (pow_out hA h1 hs))]) (7 - sn A) (by omega)
    rw [show sn A + (7 - sn A) = 7 by omega] at this
    rw [this]
theorem up_eq {had u s : Nat} (hw : wi (had ||| 2 ^ s) u = true) (e : had = u) : had ||| 2 ^ s = had := by
  have h1 := wi_le hw
  have h2 : had ≤ had ||| 2 ^ s := Nat.left_le_or
  omega
def OT (h : MH) (A : SA) (x : Nat) : Prop := ∀ y, y < 128 → wi y (unlikeS A) = true → x ≤ y → mm_I h 245 y = nI (OS A y)
theorem wi_all {A : SA} {y : Nat} (h : wi y (unlikeS A) = true) : y ≤ allS A := Nat.le_trans (wi_le h) unlike_all
theorem way_L42 {A : SA} (hA : OkA A) (hI : InN A) {had : Nat} (hh : had < 128) (wh : wi had (unlikeS A) = true) (k : MH → Option MH) :
    ∀ (n f : Nat) (h : MH) (s : Nat), n + s = sn A → n < f → Gr h → MS h A → Kn h A → OT h A (had + 1) → mm_I h 245 had = nI (curO A had s) →
      ∃ h', f_X10_ways_L42 k 230 (nI (unlikeS A)) (nI had) f h (nI s) = k h' ∧ Lk h h' ∧ Kn h' A ∧ OT h' A had := by
  have h7 := hA.2.1
  have hu := unlike_lt hA
  intro n
  induction n with
  | zero =>
    intro f h s hn hf hG M K T c
    obtain ⟨f, rfl⟩ : ∃ g, f = g + 1 := ⟨f - 1, by omega⟩
    refine ⟨h, ?_, Lk.rf, K, fun y hy hw hx => ?_⟩
    · rw [f_X10_ways_L42, r_I hG, bS, M.1, in_le (by omega) (by omega), if_pos (by omega)]
    · by_cases e : y = had
      · subst e; rw [c, show s = sn A by omega, curO_end hA hI hh]
      · exact T y hy hw (by omega)
  | succ n ih =>
    intro f h s hn hf hG M K T c
    obtain ⟨f, rfl⟩ : ∃ g, f = g + 1 := ⟨f - 1, by omega⟩
    have hs : s < 7 := by omega
    have ho := or_gt hh hs
    have skip : (had = unlikeS A ∨ goodS A had = false ∨ byS A (OS A) had s = 0) → ∃ h', f_X10_ways_L42 k 230 (nI (unlikeS A)) (nI had) f h (nI (s + 1)) = k h' ∧ Lk h h' ∧ Kn h' A ∧ OT h' A had := by
      intro q
      have ec : curO A had (s + 1) = curO A had s := by
        unfold curO
        rcases q with q | q | q
        · rw [if_pos q, if_pos q]
        · rw [q]; simp
        · rw [smS, q]; simp
      exact ih f h (s + 1) (by omega) (by omega) hG M K T (by rw [c, ec])
    rw [f_X10_ways_L42, r_I hG, bS, M.1, in_le (by omega) (by omega), if_neg (by omega), nx_shl hs, nx_or, in_eq (by omega) (by omega), cl_add]
    by_cases c1 : had ||| 2 ^ s = had
    · rw [if_pos c1]
      exact skip (Or.inr (Or.inr (by unfold byS; rw [if_pos (Or.inl c1)])))
    · rw [if_neg c1]
      by_cases c2 : wi (had ||| 2 ^ s) (unlikeS A) = true
      · have hnu : ¬ had = unlikeS A := fun z => c1 (up_eq c2 z)
        have eb : byS A (OS A) had s = OS A (had ||| 2 ^ s) := by unfold byS; rw [if_neg (fun z => z.elim c1 (fun z => by rw [c2] at z; cases z))]
        rw [if_pos ((wi_eq ho.2 hu).mpr c2), r_22 hG, bS, aZ_g hG (by decide) (by decide) (show had < 128 from hh), K.2 had (wi_all wh), bS, b2_it]
        by_cases c3 : goodS A had = true
        · rw [if_pos c3, bS, aZ_g hG (by decide) (by decide) (show had ||| 2 ^ s < 128 from ho.2), K.2 _ (wi_all c2), bS, b2_it]
          by_cases c4 : goodS A (had ||| 2 ^ s) = true
          · have eT := T (had ||| 2 ^ s) ho.2 c2 (by have := ho.1; omega)
            have w1 : Lk h (mm_si h 245 had (nI (curO A had s + OS A (had ||| 2 ^ s)))) := Lk.sit (by omega)
            rw [if_pos c4, r_27 hG, bS, aI_s hG (by decide) (by decide) (show had < 128 from hh) c, bS, bS, aI_s hG (by decide) (by decide) (show had ||| 2 ^ s < 128 from ho.2) eT, bS, nI_add, sI_g hG (by decide) (by decide) (show had < 128 from hh), bS]
            obtain ⟨h2, e2, w2, K2, T2⟩ := ih f (mm_si h 245 had (nI (curO A had s + OS A (had ||| 2 ^ s)))) (s + 1) (by omega) (by omega) hG.si (w1.ms M) (K.cong (by rw [si_o (by decide)]) (si_c (by decide))) (fun y hy hw hx => by rw [si_o2 (by omega)]; exact T y hy hw hx) (by
              rw [si_s]
              unfold curO
              rw [if_neg hnu, if_pos c3, if_neg hnu, if_pos c3, smS, eb])
            exact ⟨h2, e2, w1.tr w2, K2, T2⟩
          · rw [if_neg c4]
            refine skip (Or.inr (Or.inr ?_))
            rw [eb, OS_eq hA ho.2, if_neg c4]
        · rw [if_neg c3]
          exact skip (Or.inr (Or.inl (by simpa using c3)))
      · rw [if_neg (fun z => c2 ((wi_eq ho.2 hu).mp z))]
        exact skip (Or.inr (Or.inr (by unfold byS; rw [if_pos (Or.inr (by simpa using c2))])))
theorem way_L9 {A : SA} (hA : OkA A) (hI : InN A) (k : MH → Option MH) :
    ∀ (n f : Nat) (h : MH), n ≤ allS A + 1 → n < f → Gr h → MS h A → Kn h A → OT h A n →
      ∃ h', f_X10_ways_L9 k 230 (nI (unlikeS A)) f h (bestI n) = k h' ∧ Lk h h' ∧ Kn h' A ∧ OT h' A 0 := by
  have hl := all_lt hA
  have hu := unlike_lt hA
  have h7 := hA.2.1
  intro n
  induction n with
  | zero =>
    intro f h hn hf hG M K T
    obtain ⟨f, rfl⟩ : ∃ g, f = g + 1 := ⟨f - 1, by omega⟩
    refine ⟨h, ?_, Lk.rf, K, T⟩
    rw [f_X10_ways_L9, if_pos bestI_0]
  | succ n ih =>
    intro f h hn hf hG M K T
    obtain ⟨f, rfl⟩ : ∃ g, f = g + 1 := ⟨f - 1, by omega⟩
    rw [f_X10_ways_L9, ← bestI_s, it_neg (by omega), bestI_d]
    by_cases c1 : wi n (unlikeS A) = true
    · have go : ∀ x, x = curO A n 0 → ∃ h', f_X10_ways_j39 (fun x2f9 hf9 => f_X10_ways_L9 k 230 (nI (unlikeS A)) f hf9 x2f9) h 230 (nI (unlikeS A)) (nI n) (nI x) (nI n) 245 = k h' ∧ Lk h h' ∧ Kn h' A ∧ OT h' A 0 := by
        intro x ex
        have w1 : Lk h (mm_si h 245 n (nI x)) := Lk.sit (by omega)
        obtain ⟨h2, e2, w2, K2, T2⟩ := way_L42 hA hI (show n < 128 by omega) c1 (fun he113 => f_X10_ways_L9 k 230 (nI (unlikeS A)) f he113 (nI n + (-1 : Int32))) (sn A) fuel (mm_si h 245 n (nI x)) 0 (by omega) (by unfold fuel; omega) hG.si (w1.ms M) (K.cong (by rw [si_o (by decide)]) (si_c (by decide))) (fun y hy hw hx => by rw [si_o2 (by omega)]; exact T y hy hw hx) (by rw [si_s, ex])
        have w12 := w1.tr w2
        obtain ⟨h3, e3, w3, K3, T3⟩ := ih f h2 (by omega) (by omega) (w12.1.Gr hG) (w12.ms M) K2 T2
        refine ⟨h3, ?_, w12.tr w3, K3, T3⟩
        unfold f_X10_ways_j39
        rw [sI_g hG (by decide) (by decide) (show n < 128 by omega), bS]
        refine e2.trans ?_
        rw [bestI_d]
        exact e3
      rw [if_pos ((wi_eq (by omega) hu).mpr c1), r_27 hG, bS, in_eq (by omega) (by omega)]
      by_cases c2 : n = unlikeS A
      · rw [if_pos c2]
        exact go 1 (by unfold curO; rw [if_pos c2])
      · rw [if_neg c2]
        exact go 0 (by unfold curO; rw [if_neg c2]; simp [smS])
    · rw [if_neg (fun z => c1 ((wi_eq (by omega) hu).mp z))]
      exact ih f h (by omega) (by omega) hG M K (fun y hy hw hx => by
        by_cases e : y = n
        · exact absurd (e ▸ hw) c1
        · exact T y hy hw (by omega))
theorem ways_eq {h : MH} {A : SA} (hG : Gr h) (hA : OkA A) (hI : InN A) (M : MS h A) (K : MK h A) : ∃ h', f_X10_ways h 230 (nI (unlikeS A)) = some h' ∧ Lk h h' ∧ Kn h' A ∧ OT h' A 0 := by
  have hl := all_lt hA
  obtain ⟨h0, e0, w0, K0⟩ := learn_eq hG hA M K
  have G0 := w0.1.Gr hG
  have M0 := w0.lk.ms M
  obtain ⟨h1, e1, w1, K1, T1⟩ := way_L9 hA hI (fun he => some he) (allS A + 1) fuel h0 (Nat.le_refl _) (by unfold fuel; omega) G0 M0 K0 (fun y hy hw hx => by have := wi_all hw; omega)
  refine ⟨h1, ?_, w0.lk.tr w1, K1, T1⟩
  unfold f_X10_ways
  rw [r_K hG, e0, bS, all_eq G0 hA M0, bS, bestI_s (allS A)]
  exact e1
/-- the r-th order goes on -/
theorem ord_L52 {h : MH} {A : SA} (hG : Gr h) (hA : OkA A) (K : Kn h A) (T : OT h A 0) {had : Nat} (hh : had < 128) (wh : wi had (unlikeS A) = true) (hg : goodS A had = true) (k : Int32 → Int32 → Option (Int32 × MH)) :
    ∀ (n f s r : Nat), n + s = 6 → n < f → r < 2 ^ 30 → r < smF (byS A (OS A) had) (n + 1) s → f_X10_order_L52 k h 230 (nI (unlikeS A)) (nI had) f (nI r) (nI s) = k (nI (pick (byS A (OS A) had) n s r).2) (nI (pick (byS A (OS A) had) n s r).1) := by
  have hu := unlike_lt hA
  have core : ∀ (f s r : Nat), s < 7 → r < 2 ^ 30 → f_X10_order_L52 k h 230 (nI (unlikeS A)) (nI had) (f + 1) (nI r) (nI s) = (if r < byS A (OS A) had s then k (nI r) (nI s) else f_X10_order_L52 k h 230 (nI (unlikeS A)) (nI had) f (nI (r - byS A (OS A) had s)) (nI (s + 1))) := by
    intro f s r hs hr
    have ho := or_gt hh hs
    have zero : byS A (OS A) had s = 0 → f_X10_order_j101 (fun x3f52 x5f52 => f_X10_order_L52 k h 230 (nI (unlikeS A)) (nI had) f x3f52 x5f52) (fun x3f120 x5f120 => k x3f120 x5f120) h 230 (nI (unlikeS A)) (nI r) (nI had) (nI s) (nI (had ||| 2 ^ s)) = (if r < byS A (OS A) had s then k (nI r) (nI s) else f_X10_order_L52 k h 230 (nI (unlikeS A)) (nI had) f (nI (r - byS A (OS A) had s)) (nI (s + 1))) := by
      intro e0
      unfold f_X10_order_j101 f_X10_order_j102 f_X10_order_j123
      rw [if_pos rfl, if_pos rfl, e0, if_neg (by omega), cl_sub (by show 0 ≤ r; omega), cl_add]
    rw [f_X10_order_L52, nx_shl hs, nx_or, in_eq (by omega) (by omega)]
    by_cases c1 : had ||| 2 ^ s = had
    · rw [if_pos c1]
      exact zero (by unfold byS; rw [if_pos (Or.inl c1)])
    · rw [if_neg c1]
      by_cases c2 : wi (had ||| 2 ^ s) (unlikeS A) = true
      · have eb : byS A (OS A) had s = OS A (had ||| 2 ^ s) := by unfold byS; rw [if_neg (fun z => z.elim c1 (fun z => by rw [c2] at z; cases z))]
        have hb := OS_lt hA ho.2
        rw [if_pos ((wi_eq ho.2 hu).mpr c2), r_22 hG, bS, aZ_g hG (by decide) (by decide) (show had < 128 from hh), K.2 had (wi_all wh), bS, b2_it, if_pos hg, bS, aZ_g hG (by decide) (by decide) (show had ||| 2 ^ s < 128 from ho.2), K.2 _ (wi_all c2), bS, b2_it]
        by_cases c4 : goodS A (had ||| 2 ^ s) = true
        · rw [if_pos c4]
          unfold f_X10_order_j102 f_X10_order_j123
          rw [if_neg (show ¬ (1 : Int32) = 0 by decide), r_27 hG, bS, aI_s hG (by decide) (by decide) (show had ||| 2 ^ s < 128 from ho.2) (T _ ho.2 c2 (Nat.zero_le _)), bS, in_le (by omega) (by omega), eb]
          by_cases c5 : OS A (had ||| 2 ^ s) ≤ r
          · rw [if_pos c5, if_neg (show ¬ (1 : Int32) = 0 by decide), bS, aI_s hG (by decide) (by decide) (show had ||| 2 ^ s < 128 from ho.2) (T _ ho.2 c2 (Nat.zero_le _)), bS, pk_sub c5, cl_add, if_neg (show ¬ r < OS A (had ||| 2 ^ s) by omega)]
          · rw [if_neg c5, if_pos (show r < OS A (had ||| 2 ^ s) by omega)]
        · rw [if_neg c4]
          exact zero (by rw [eb, OS_eq hA ho.2, if_neg c4])
      · rw [if_neg (fun z => c2 ((wi_eq ho.2 hu).mp z))]
        exact zero (by unfold byS; rw [if_pos (Or.inr (by simpa using c2))])
  intro n
  induction n with
  | zero =>
    intro f s r hn hf hr hlt
    obtain ⟨f, rfl⟩ : ∃ g, f = g + 1 := ⟨f - 1, by omega⟩
    have hq : r < byS A (OS A) had s := by simpa [smF] using hlt
    rw [core f s r (by omega) hr, if_pos hq, pick]
  | succ n ih =>
    intro f s r hn hf hr hlt
    obtain ⟨f, rfl⟩ : ∃ g, f = g + 1 := ⟨f - 1, by omega⟩
    rw [core f s r (by omega) hr, pick]
    by_cases c : r < byS A (OS A) had s
    · rw [if_pos c, if_pos c]
    · rw [if_neg c, if_neg c]
      rw [smF] at hlt
      exact ih f (s + 1) (r - byS A (OS A) had s) (by omega) (by omega) (by omega) (by omega)
theorem ord_L43 {A : SA} (hA : OkA A) (k : MH → Option (Int32 × MH)) :
    ∀ (n f : Nat) (h : MH) (l : List Nat) (had r : Nat), n + l.length = 7 → n < f → Gr h → Kn h A → OT h A 0 → MP h l → had < 128 → wi had (unlikeS A) = true → l.length ≤ pc had → r < OS A had →
      ∃ h', f_X10_order_L43 k 230 (nI (unlikeS A)) f h (nI r) (nI had) = k h' ∧ Lp h h' ∧ Kn h' A ∧ MP h' (l ++ ordS A n had r) := by
  have hu := unlike_lt hA
  intro n
  induction n with
  | zero =>
    intro f h l had r hn hf hG K T P hh wh hpc hr
    obtain ⟨f, rfl⟩ : ∃ g, f = g + 1 := ⟨f - 1, by omega⟩
    have he : had = unlikeS A := by
      apply Decidable.byContradiction
      intro c
      have hb := pick_by hA hh c hr
      have := pc_le hb.2.1
      omega
    refine ⟨h, ?_, Lp.rf, K, by simpa [ordS] using P⟩
    rw [f_X10_order_L43, in_eq (by omega) (by omega), if_pos he]
  | succ n ih =>
    intro f h l had r hn hf hG K T P hh wh hpc hr
    obtain ⟨f, rfl⟩ : ∃ g, f = g + 1 := ⟨f - 1, by omega⟩
    rw [f_X10_order_L43, in_eq (by omega) (by omega), ordS]
    by_cases c : had = unlikeS A
    · refine ⟨h, by rw [if_pos c], Lp.rf, K, by simpa [c] using P⟩
    · have hb := pick_by hA hh c hr
      have hos := OS_lt hA hh
      have eo := OS_eq hA hh
      rw [if_pos hb.2.2.2.2.2.1, if_neg c] at eo
      rw [if_neg c, show (0 : Int32) = nI 0 from rfl, ord_L52 hG hA K T hh wh hb.2.2.2.2.2.1 _ 6 fuel 0 r rfl (by decide) (by omega) (by rw [smF_7]; omega)]
      generalize pick (byS A (OS A) had) 6 0 r = q at hb ⊢
      obtain ⟨s, r'⟩ := q
      simp only at hb ⊢
      have hlen : (l ++ [2 ^ s]).length = l.length + 1 := by simp
      have w2 : Lp h (mm_si (mm_si h 243 l.length (nI (2 ^ s))) 230 24 (nI (l.length + 1))) := Lp.si43.tr Lp.si24
      obtain ⟨h2, e2, w3, K3, P3⟩ := ih f (mm_si (mm_si h 243 l.length (nI (2 ^ s))) 230 24 (nI (l.length + 1))) (l ++ [2 ^ s]) (had ||| 2 ^ s) r' (by rw [hlen]; omega) (by omega) hG.si.si (K.cong (by rw [si_o2 (by decide), si_o (by decide)]) (by rw [si_c (by decide), si_c (by decide)])) (fun y hy hwy hx => by rw [si_c (by decide), si_c (by decide)]; exact T y hy hwy hx) (P.add (by omega)) hb.2.1 hb.2.2.1 (by rw [hlen]; omega) hb.2.2.2.1
      refine ⟨h2, ?_, w2.tr w3, K3, by rw [if_neg c]; simpa using P3⟩
      rw [r_25 hG, bS, r_I hG, bS, P.1, nx_shl hb.1, sI_g hG (by decide) (by decide) (show l.length < 7 by omega), bS, r_I hG.si, bS, si_o (by decide), P.1, cl_add, r_P hG.si, bS, nx_or]
      exact e2
section
variable {h : MH} {z : ZS}
theorem y_orders (hz : OkZ z) (hI : InN (zA z)) (hG : Gr h) (M : MX h z) : ∃ h', f_X10_orders h 230 = some (opOrders z, h') ∧ MX h' z ∧ Only h h' MF := by
  have hA := hz.1
  obtain ⟨h1, e1, w1, K1, T1⟩ := ways_eq hG hA hI M.1 M.2.1
  have G1 := w1.1.Gr hG
  refine ⟨h1, ?_, w1.mx K1.mk M, w1.mf⟩
  unfold f_X10_orders
  rw [r_K hG, unlikeM_eq hG hA M.1, bS, e1, bS, r_27 G1, bS, aI_lit, aI_s G1 (by decide) (by decide) (show 0 < 128 by decide) (T1 0 (by decide) (wi_0 _) (Nat.zero_le _)), bS]
  rfl
theorem y_order (hz : OkZ z) (hI : InN (zA z)) (hG : Gr h) (M : MX h z) (x : Int32) : ∃ h', f_X10_order h 230 x = some ((opOrder z x).1, h') ∧ MX h' (opOrder z x).2 ∧ Only h h' MF := by
  have hA := hz.1
  obtain ⟨h1, e1, w1, K1, T1⟩ := ways_eq hG hA hI M.1 M.2.1
  have G1 := w1.1.Gr hG
  have hos := OS_lt hA (show 0 < 128 by decide)
  unfold f_X10_order
  rw [r_K hG, unlikeM_eq hG hA M.1, bS, e1, bS, r_27 G1, bS, aI_lit, aI_s G1 (by decide) (by decide) (show 0 < 128 by decide) (T1 0 (by decide) (wi_0 _) (Nat.zero_le _)), bS]
  rcases idx_cases x (OS (zA z) 0) (by omega) with ⟨r, hr, rfl, ir⟩ | ⟨-, ir, c⟩
  · have eO : opOrder z (nI r) = (1, (zA z, ordS (zA z) 7 0 r, zT z, none)) := by unfold opOrder; rw [ir]
    have w2 : Lp (mm_si h1 230 28 0) (mm_si (mm_si h1 230 28 0) 230 24 0) := Lp.si24
    have o0 : Only h (mm_si h1 230 28 0) MF := w1.mf.tr (Only.si (by unfold MF; omega))
    have M2 : MS (mm_si (mm_si h1 230 28 0) 230 24 0) (zA z) := w2.ms ((w1.ms M.1).cong (fun k hk => by rw [si_o2 (by omega)]) (fun a _ _ => si_c (by omega)))
    obtain ⟨h3, e3, w3, K3, P3⟩ := ord_L43 hA (fun he183 => some ((1 : Int32), he183)) 7 fuel (mm_si (mm_si h1 230 28 0) 230 24 0) [] 0 r rfl (by decide) G1.si.si (K1.cong (by rw [si_o2 (by decide), si_o2 (by decide)]) (by rw [si_c (by decide), si_c (by decide)])) (fun y hy hw hx => by rw [si_c (by decide), si_c (by decide)]; exact T1 y hy hw hx) ⟨by rw [si_s]; rfl, by simp, fun i s hi => by simp at hi⟩ (by decide) (wi_0 _) (by simp) hr
    have w23 := w2.tr w3
    have P3' : MP h3 (ordS (zA z) 7 0 r) := by simpa using P3
    have T3 : MT h3 (zT z) := by
      refine w23.mt ?_
      have := w1.mt M.2.2.2.1
      unfold MT at this ⊢
      rw [si_o2 (by decide), si_o2 (by decide), si_c (by decide)]; exact this
    have R3 : mm_I h3 230 28 = 0 := by rw [w23.2 28 (by decide) (by decide) (by decide) (by decide), si_s]
    rw [eO]
    refine ⟨h3, ?_, ⟨w3.ms M2, K3.mk, P3', T3, R3⟩, o0.tr w23.mf⟩
    rw [isIn_y hr (by omega), bS, if_neg (by decide), r_Z0 G1, bS, r_P G1.si, bS]
    exact e3
  · have eO : opOrder z x = (0, z) := by unfold opOrder; rw [ir]
    rw [eO]
    refine ⟨h1, ?_, w1.mx K1.mk M, w1.mf⟩
    rw [isIn_n (by omega) c, bS, if_pos rfl]
end

/-! ===== the reference: the fewest rounds ===== -/
theorem bst_99 {v : Nat → Nat} {ok : Nat → Bool} : ∀ n, bst v ok n ≤ 99
  | 0 => Nat.le_refl _
  | n + 1 => by
    have ih := bst_99 (v := v) (ok := ok) n
    rw [bst]
    split
    · rename_i c; omega
    · exact ih
theorem bst_ext {v : Nat → Nat} {ok : Nat → Bool} {u : Nat} (h : ∀ s, u < s → ok s = false) : ∀ n, bst v ok (u + n) = bst v ok u
  | 0 => rfl
  | n + 1 => by
    rw [show u + (n + 1) = (u + n) + 1 by omega, bst, if_neg (fun z => by rw [h (u + n + 1) (by omega)] at z; exact absurd z.2 (by decide)), bst_ext h n]
theorem ok_out {A : SA} {had s : Nat} (h : unlikeS A < s) : okS A had s = false := by
  cases hq : okS A had s with
  | false => rfl
  | true =>
    unfold okS at hq
    simp only [Bool.and_eq_true] at hq
    have := wi_le hq.1.1
    omega
theorem TS_99 {A : SA} (hA : OkA A) {had : Nat} (hh : had < 128) : TS A had ≤ 99 := by have := TS_small hA hh; omega
theorem bestI_d (n : Nat) : nI n + (-1 : Int32) = bestI n := by
  unfold bestI
  rw [Int32.sub_eq_add_neg]
theorem bestI_0 : bestI 0 < 0 := by decide
theorem apart_u {s u : Nat} (h1 : 1 ≤ s) (hw : wi s u = true) : ¬ s &&& u = 0 := by
  unfold wi at hw
  rw [beq_iff_eq] at hw
  omega
/-- what stands in the table of the fewest rounds while the value of had is sought -/
def curT (A : SA) (had s : Nat) : Nat := if had = unlikeS A then 0 else bst (fun s => TS A (had ||| s)) (okS A had) s
theorem curT_99 (A : SA) (had s : Nat) : curT A had s ≤ 99 := by
  unfold curT
  split
  · omega
  · exact bst_99 s
theorem curT_end {A : SA} (hA : OkA A) {had : Nat} (hh : had < 128) : curT A had (allS A) = TS A had := by
  have hu := unlike_all (A := A)
  rw [TS_eq hA hh]
  unfold curT
  split
  · rfl
  · have := bst_ext (v := fun s => TS A (had ||| s)) (ok := okS A had) (u := unlikeS A) (fun s hs => ok_out hs) (allS A - unlikeS A)
    rw [show unlikeS A + (allS A - unlikeS A) = allS A by omega] at this
    exact this
def FT (h : MH) (A : SA) (x : Nat) : Prop := ∀ y, y < 128 → wi y (unlikeS A) = true → x ≤ y → mm_I h 244 y = nI (TS A y)
theorem few_L39 {A : SA} (hA : OkA A) {had : Nat} (hh : had < 128) (wh : wi had (unlikeS A) = true) (k : MH → Option MH) :
    ∀ (n f : Nat) (h : MH) (s : Nat), n + s = allS A → n + 1 < f → Gr h → MS h A → MK h A → FT h A (had + 1) → mm_I h 244 had = nI (curT A had s) →
      ∃ h', f_X10_fewest_L39 k 230 (nI (unlikeS A)) (nI had) f h (nI (s + 1)) = k h' ∧ Lk h h' ∧ MK h' A ∧ FT h' A had := by
  have hl := all_lt hA
  have hu := unlike_lt hA
  intro n
  induction n with
  | zero =>
    intro f h s hn hf hG M K T c
    obtain ⟨f, rfl⟩ : ∃ g, f = g + 1 := ⟨f - 1, by omega⟩
    refine ⟨h, ?_, Lk.rf, K, fun y hy hw hx => ?_⟩
    · rw [f_X10_fewest_L39, all_eq hG hA M, bS, in_lt (by omega) (by omega), if_pos (by omega)]
    · by_cases e : y = had
      · subst e; rw [c, show s = allS A by omega, curT_end hA hh]
      · exact T y hy hw (by omega)
  | succ n ih =>
    intro f h s hn hf hG M K T c
    obtain ⟨f, rfl⟩ : ∃ g, f = g + 1 := ⟨f - 1, by omega⟩
    have hs : s + 1 < 128 := by omega
    have ha1 : (s + 1) &&& had < 128 := Nat.lt_of_le_of_lt Nat.and_le_right hh
    have skip : ∀ h1, Lk h h1 → MK h1 A → mm_I h1 244 = mm_I h 244 → (had = unlikeS A ∨ ¬ (TS A (had ||| (s + 1)) + 1 < bst (fun s => TS A (had ||| s)) (okS A had) s ∧ okS A had (s + 1) = true)) → ∃ h', f_X10_fewest_L39 k 230 (nI (unlikeS A)) (nI had) f h1 (nI (s + 1 + 1)) = k h' ∧ Lk h h' ∧ MK h' A ∧ FT h' A had := by
      intro h1 w1 K1 e1 q
      have ec : curT A had (s + 1) = curT A had s := by
        unfold curT
        by_cases cu : had = unlikeS A
        · rw [if_pos cu, if_pos cu]
        · rw [if_neg cu, if_neg cu, bst, if_neg (q.resolve_left cu)]
      obtain ⟨h2, e2, w2, K2, T2⟩ := ih f h1 (s + 1) (by omega) (by omega) (w1.1.Gr hG) (w1.ms M) K1 (fun y hy hw hx => by rw [e1]; exact T y hy hw hx) (by rw [e1, c, ec])
      exact ⟨h2, e2, w1.tr w2, K2, T2⟩
    rw [f_X10_fewest_L39, all_eq hG hA M, bS, in_lt (by omega) (by omega), if_neg (by omega), cl_add]
    by_cases c1 : wi (s + 1) (unlikeS A) = true
    · rw [if_pos ((wi_eq hs hu).mpr c1), nx_and, it_eq1 (by omega) (by decide)]
      by_cases c2 : (s + 1) &&& had = 0
      · have cu : ¬ had = unlikeS A := fun z => by rw [z] at c2; exact apart_u (by omega) c1 c2
        have hd : had &&& (s + 1) = 0 := by rw [Nat.and_comm]; exact c2
        have ho := or_add hh hs hd
        have hol := or_lt hh hs
        have eT := T (had ||| (s + 1)) hol (wi_or wh c1) (by omega)
        have bT := TS_99 hA hol
        have bC := curT_99 A had s
        have cb : curT A had s = bst (fun s => TS A (had ||| s)) (okS A had) s := by unfold curT; rw [if_neg cu]
        rw [if_pos c2, r_26 hG, bS, nx_or, aI_s hG (by decide) (by decide) (show had ||| (s + 1) < 128 from hol) eT, bS, bS, aI_s hG (by decide) (by decide) (show had < 128 from hh) c, bS, cl_add, in_lt (by omega) (by omega)]
        by_cases c3 : TS A (had ||| (s + 1)) + 1 < curT A had s
        · obtain ⟨h1, e1, w1, K1⟩ := against_eq hG hA M K hh hs wh c1 hd
          have G1 := w1.1.Gr hG
          have e44 := w1.1.2.2.2.2.2 244 (by decide)
          rw [if_pos c3, e1, bS]
          by_cases c4 : tkS A had (s + 1) = true
          · have ok : okS A had (s + 1) = true := by unfold okS; rw [c1, c4, hd]; rfl
            rw [if_pos ((agI_m1 hh hs).mpr c4), r_26 G1, bS, bS, aI_s G1 (by decide) (by decide) (show had ||| (s + 1) < 128 from hol) (by rw [e44]; exact eT), bS, cl_add, sI_g G1 (by decide) (by decide) (show had < 128 from hh), bS]
            have w2 : Lk h (mm_si h1 244 had (nI (TS A (had ||| (s + 1)) + 1))) := w1.lk.tr (Lk.sit (by omega))
            obtain ⟨h2, e2, w3, K2, T2⟩ := ih f (mm_si h1 244 had (nI (TS A (had ||| (s + 1)) + 1))) (s + 1) (by omega) (by omega) G1.si (w2.ms M) (K1.mk.cong (by rw [si_o (by decide)]) (si_c (by decide))) (fun y hy hw hx => by rw [si_o2 (by omega), e44]; exact T y hy hw hx) (by
              rw [si_s]
              unfold curT
              rw [if_neg cu, bst, if_pos ⟨by rw [← cb]; exact c3, ok⟩])
            exact ⟨h2, e2, w2.tr w3, K2, T2⟩
          · rw [if_neg (fun z => c4 ((agI_m1 hh hs).mp z))]
            refine skip h1 w1.lk K1.mk e44 (Or.inr (fun z => c4 ?_))
            have := z.2
            unfold okS at this
            simp only [Bool.and_eq_true] at this
            exact this.2
        · rw [if_neg c3]
          exact skip h Lk.rf K rfl (Or.inr (fun z => c3 (by rw [cb]; exact z.1)))
      · rw [if_neg c2]
        refine skip h Lk.rf K rfl (Or.inr (fun z => c2 ?_))
        have := z.2
        unfold okS at this
        simp only [Bool.and_eq_true, beq_iff_eq] at this
        rw [Nat.and_comm]; exact this.1.2
    · rw [if_neg (fun z => c1 ((wi_eq hs hu).mp z))]
      refine skip h Lk.rf K rfl (Or.inr (fun z => c1 ?_))
      have := z.2
      unfold okS at this
      simp only [Bool.and_eq_true] at this
      exact this.1.1
theorem few_L5 {A : SA} (hA : OkA A) (k : MH → Option MH) :
    ∀ (n f : Nat) (h : MH), n ≤ allS A + 1 → n < f → Gr h → MS h A → MK h A → FT h A n →
      ∃ h', f_X10_fewest_L5 k 230 (nI (unlikeS A)) f h (bestI n) = k h' ∧ Lk h h' ∧ MK h' A ∧ FT h' A 0 := by
  have hl := all_lt hA
  have hu := unlike_lt hA
  intro n
  induction n with
  | zero =>
    intro f h hn hf hG M K T
    obtain ⟨f, rfl⟩ : ∃ g, f = g + 1 := ⟨f - 1, by omega⟩
    refine ⟨h, ?_, Lk.rf, K, T⟩
    rw [f_X10_fewest_L5, if_pos bestI_0]
  | succ n ih =>
    intro f h hn hf hG M K T
    obtain ⟨f, rfl⟩ : ∃ g, f = g + 1 := ⟨f - 1, by omega⟩
    rw [f_X10_fewest_L5, ← bestI_s, it_neg (by omega), bestI_d]
    by_cases c1 : wi n (unlikeS A) = true
    · have go : ∀ x, x = curT A n 0 → ∃ h', f_X10_fewest_j36 (fun x2f5 hf5 => f_X10_fewest_L5 k 230 (nI (unlikeS A)) f hf5 x2f5) h 230 (nI (unlikeS A)) (nI n) (nI x) (nI n) 244 = k h' ∧ Lk h h' ∧ MK h' A ∧ FT h' A 0 := by
        intro x ex
        have w1 : Lk h (mm_si h 244 n (nI x)) := Lk.sit (by omega)
        obtain ⟨h2, e2, w2, K2, T2⟩ := few_L39 hA (show n < 128 by omega) c1 (fun he115 => f_X10_fewest_L5 k 230 (nI (unlikeS A)) f he115 (nI n + (-1 : Int32))) (allS A) fuel (mm_si h 244 n (nI x)) 0 (by omega) (by unfold fuel; omega) hG.si (w1.ms M) (K.cong (by rw [si_o (by decide)]) (si_c (by decide))) (fun y hy hw hx => by rw [si_o2 (by omega)]; exact T y hy hw hx) (by rw [si_s, ex])
        have w12 := w1.tr w2
        obtain ⟨h3, e3, w3, K3, T3⟩ := ih f h2 (by omega) (by omega) (w12.1.Gr hG) (w12.ms M) K2 T2
        refine ⟨h3, ?_, w12.tr w3, K3, T3⟩
        unfold f_X10_fewest_j36
        rw [sI_g hG (by decide) (by decide) (show n < 128 by omega), bS]
        refine e2.trans ?_
        rw [bestI_d]
        exact e3
      rw [if_pos ((wi_eq (by omega) hu).mpr c1), r_26 hG, bS, in_eq (by omega) (by omega)]
      by_cases c2 : n = unlikeS A
      · rw [if_pos c2]
        exact go 0 (by unfold curT; rw [if_pos c2])
      · rw [if_neg c2]
        exact go 99 (by unfold curT; rw [if_neg c2]; rfl)
    · rw [if_neg (fun z => c1 ((wi_eq (by omega) hu).mp z))]
      exact ih f h (by omega) (by omega) hG M K (fun y hy hw hx => by
        by_cases e : y = n
        · exact absurd (e ▸ hw) c1
        · exact T y hy hw (by omega))
theorem fewest_eq {h : MH} {A : SA} (hG : Gr h) (hA : OkA A) (M : MS h A) (K : MK h A) : ∃ h', f_X10_fewest h 230 (nI (unlikeS A)) = some h' ∧ Lk h h' ∧ MK h' A ∧ FT h' A 0 := by
  have hl := all_lt hA
  obtain ⟨h1, e1, w1, K1, T1⟩ := few_L5 hA (fun he => some he) (allS A + 1) fuel h (Nat.le_refl _) (by unfold fuel; omega) hG M K (fun y hy hw hx => by have := wi_le hw; have := unlike_all (A := A); omega)
  refine ⟨h1, ?_, w1, K1, T1⟩
  unfold f_X10_fewest
  rw [r_K hG, all_eq hG hA M, bS, bestI_s (allS A)]
  exact e1
/-- a next round, where a plan can go on -/
theorem next_L42 {A : SA} (hA : OkA A) {had : Nat} (hh : had < 128) (wh : wi had (unlikeS A) = true) (hne : had ≠ unlikeS A) (ht : TS A had < 99) (k : Int32 → MH → Option (Int32 × MH)) :
    ∀ (n f : Nat) (h : MH) (s : Nat), n + s = nxS A had → 1 ≤ s → n < f → Gr h → MS h A → MK h A → FT h A 0 →
      ∃ h', f_X10_least_L42 k 230 (nI (unlikeS A)) (nI had) f h (nI s) = k (nI (nxS A had)) h' ∧ Ln h h' ∧ MK h' A := by
  have hu := unlike_lt hA
  have hx := nxS_ok hA hh hne ht
  have hw := nx_wi hx.2.2
  intro n
  induction n with
  | zero =>
    intro f h s hn h1 hf hG M K T
    obtain ⟨f, rfl⟩ : ∃ g, f = g + 1 := ⟨f - 1, by omega⟩
    have es : s = nxS A had := by omega
    subst es
    have hs : nxS A had < 128 := by omega
    have hd : nxS A had &&& had = 0 := by rw [Nat.and_comm]; exact hw.2.1
    have hol := or_lt hh hs
    have tk : tkS A had (nxS A had) = true := by
      have := hx.2.2
      unfold nxP okS at this
      simp only [Bool.and_eq_true] at this
      exact this.1.2
    obtain ⟨h1, e1, w1, K1⟩ := against_eq hG hA M K hh hs wh hw.1 hw.2.1
    refine ⟨h1, ?_, w1, K1.mk⟩
    rw [f_X10_least_L42, if_pos ((wi_eq hs hu).mpr hw.1), nx_and, hd, if_pos (show nI 0 = (0 : Int32) from rfl), r_26 hG, bS, nx_or, aI_s hG (by decide) (by decide) (show had ||| nxS A had < 128 from hol) (T _ hol (wi_or wh hw.1) (Nat.zero_le _)), bS, bS, aI_s hG (by decide) (by decide) (show had < 128 from hh) (T _ hh wh (Nat.zero_le _)), bS, cl_sub (by omega), in_eq (by omega) (by omega), if_pos (by omega), e1, bS, if_pos ((agI_m1 hh hs).mpr tk)]
  | succ n ih =>
    intro f h s hn h1 hf hG M K T
    obtain ⟨f, rfl⟩ : ∃ g, f = g + 1 := ⟨f - 1, by omega⟩
    have hs : s < 128 := by omega
    have hlt : s < nxS A had := by omega
    have hno : nxP A had s = false := lst_no (unlikeS A) 1 s h1 hlt
    have ha1 : s &&& had < 128 := Nat.lt_of_le_of_lt Nat.and_le_right hh
    have skip : ∀ h1, Ln h h1 → MK h1 A → ∃ h', f_X10_least_L42 k 230 (nI (unlikeS A)) (nI had) f h1 (nI (s + 1)) = k (nI (nxS A had)) h' ∧ Ln h h' ∧ MK h' A := by
      intro h1 w1 K1
      obtain ⟨h2, e2, w2, K2⟩ := ih f h1 (s + 1) (by omega) (by omega) (by omega) (w1.1.Gr hG) (w1.lk.ms M) K1 (fun y hy hw hx => by rw [w1.1.2.2.2.2.2 244 (by decide)]; exact T y hy hw hx)
      exact ⟨h2, e2, w1.tr w2, K2⟩
    rw [f_X10_least_L42, cl_add]
    by_cases c1 : wi s (unlikeS A) = true
    · rw [if_pos ((wi_eq hs hu).mpr c1), nx_and, it_eq1 (by omega) (by decide)]
      by_cases c2 : s &&& had = 0
      · have hd : had &&& s = 0 := by rw [Nat.and_comm]; exact c2
        have hol := or_lt hh hs
        have bT := TS_99 hA hol
        rw [if_pos c2, r_26 hG, bS, nx_or, aI_s hG (by decide) (by decide) (show had ||| s < 128 from hol) (T _ hol (wi_or wh c1) (Nat.zero_le _)), bS, bS, aI_s hG (by decide) (by decide) (show had < 128 from hh) (T _ hh wh (Nat.zero_le _)), bS, cl_sub (by omega), in_eq (by omega) (by omega)]
        by_cases c3 : TS A (had ||| s) = TS A had - 1
        · obtain ⟨h1, e1, w1, K1⟩ := against_eq hG hA M K hh hs wh c1 hd
          rw [if_pos c3, e1, bS]
          by_cases c4 : tkS A had s = true
          · exfalso
            have : nxP A had s = true := by
              unfold nxP okS
              rw [c1, c4, hd, show TS A (had ||| s) + 1 = TS A had by omega]
              simp
            rw [this] at hno; cases hno
          · rw [if_neg (fun z => c4 ((agI_m1 hh hs).mp z))]
            exact skip h1 w1 K1.mk
        · rw [if_neg c3]; exact skip h Ln.rf K
      · rw [if_neg c2]; exact skip h Ln.rf K
    · rw [if_neg (fun z => c1 ((wi_eq hs hu).mp z))]
      exact skip h Ln.rf K
/-- what planning writes -/
def Lp (h h' : MH) : Prop := Only h h' (fun a => a = 230 ∨ a = 237 ∨ a = 238 ∨ a = 241 ∨ a = 242 ∨ a = 243 ∨ a = 244 ∨ a = 245) ∧ ∀ k, k ≠ 13 → k ≠ 14 → k ≠ 21 → k ≠ 24 → mm_I h' 230 k = mm_I h 230 k
theorem Lp.rf {h : MH} : Lp h h := ⟨Only.rf, fun _ _ _ _ _ => rfl⟩
theorem Lp.tr {h h1 h2 : MH} (a : Lp h h1) (b : Lp h1 h2) : Lp h h2 := ⟨a.1.tr b.1, fun k h1 h2 h3 h4 => (b.2 k h1 h2 h3 h4).trans (a.2 k h1 h2 h3 h4)⟩
theorem Lk.lp {h h' : MH} (w : Lk h h') : Lp h h' := ⟨w.1.mono (fun a q => by omega), fun k h1 h2 h3 _ => w.2 k h1 h2 h3⟩
theorem Lp.si43 {h : MH} {k : Nat} {x : Int32} : Lp h (mm_si h 243 k x) := ⟨Only.si (by decide), fun j _ _ _ _ => by rw [si_o (by decide)]⟩
theorem Lp.si24 {h : MH} {x : Int32} : Lp h (mm_si h 230 24 x) := ⟨Only.si (by decide), fun j _ _ _ _ => by rw [si_o2 (by omega)]⟩
theorem Lp.ms {h h' : MH} {A : SA} (w : Lp h h') (M : MS h A) : MS h' A := M.cong (fun k hk => w.2 k (by omega) (by omega) (by omega) (by omega)) (fun a h1 h2 => w.1.2.2.2.2.2 a (by omega))
theorem Lp.mt {h h' : MH} {t : List Nat × Int32} (w : Lp h h') (M : MT h t) : MT h' t := by
  unfold MT at M ⊢; rw [w.2 19 (by decide) (by decide) (by decide) (by decide), w.2 20 (by decide) (by decide) (by decide) (by decide), w.1.2.2.2.2.2 240 (by decide)]; exact M
theorem Lp.mf {h h' : MH} (w : Lp h h') : Only h h' MF := w.1.mono (fun a q => by unfold MF; omega)
/-- a round is put behind a plan -/
theorem MP.add {h : MH} {l : List Nat} {s : Nat} (P : MP h l) (hl : l.length < 7) : MP (mm_si (mm_si h 243 l.length (nI s)) 230 24 (nI (l.length + 1))) (l ++ [s]) := by
  refine ⟨by rw [si_s]; simp, by simp; omega, fun i t hi => ?_⟩
  rw [si_o (by decide)]
  by_cases ei : i = l.length
  · subst ei
    rw [List.getElem?_append_right (Nat.le_refl _)] at hi
    simp at hi
    rw [si_s, hi]
  · rw [si_o2 ei]
    refine P.2.2 i t ?_
    have hlt : i < (l ++ [s]).length := (List.getElem?_eq_some_iff.mp hi).1
    simp at hlt
    rw [List.getElem?_append_left (by omega)] at hi
    exact hi
theorem TS_0 {A : SA} (hA : OkA A) {had : Nat} (hh : had < 128) (h0 : TS A had = 0) : had = unlikeS A := by
  apply Decidable.byContradiction
  intro c
  rw [TS_eq hA hh, if_neg c] at h0
  obtain ⟨s, -, -, -, e⟩ := bst_hit (v := fun s => TS A (had ||| s)) (ok := okS A had) (unlikeS A) (by omega)
  omega
theorem least_L35 {A : SA} (hA : OkA A) (k : MH → Option (Int32 × MH)) :
    ∀ (n f : Nat) (h : MH) (l : List Nat) (had : Nat), n + l.length = 7 → n < f → Gr h → MS h A → MK h A → FT h A 0 → MP h l → had < 128 → wi had (unlikeS A) = true → TS A had ≤ n →
      ∃ h', f_X10_least_L35 k 230 (nI (unlikeS A)) f h (nI had) = k h' ∧ Lp h h' ∧ MK h' A ∧ MP h' (l ++ plS A n had) := by
  have hu := unlike_lt hA
  intro n
  induction n with
  | zero =>
    intro f h l had hn hf hG M K T P hh wh ht
    obtain ⟨f, rfl⟩ : ∃ g, f = g + 1 := ⟨f - 1, by omega⟩
    refine ⟨h, ?_, Lp.rf, K, by simpa [plS] using P⟩
    rw [f_X10_least_L35, in_eq (by omega) (by omega), if_pos (TS_0 hA hh (by omega))]
  | succ n ih =>
    intro f h l had hn hf hG M K T P hh wh ht
    obtain ⟨f, rfl⟩ : ∃ g, f = g + 1 := ⟨f - 1, by omega⟩
    rw [f_X10_least_L35, in_eq (by omega) (by omega), plS]
    by_cases c : had = unlikeS A
    · refine ⟨h, by rw [if_pos c], Lp.rf, K, by simpa [c] using P⟩
    · have ht9 : TS A had < 99 := by omega
      have hx := nxS_ok hA hh c ht9
      have hw := nx_wi hx.2.2
      have hs : nxS A had < 128 := by omega
      obtain ⟨h1, e1, w1, K1⟩ := next_L42 hA hh wh c ht9 (fun x3e91 he91 => (gR he91 230 10 25).bind fun b92 => (gI he91 230 10 24).bind fun v96 => (sI he91 b92 v96 x3e91).bind fun h100 => (gI h100 230 10 24).bind fun v103 => (pI h100 230 10 24 (v103 + (1 : Int32))).bind fun h108 => f_X10_least_L35 k 230 (nI (unlikeS A)) f h108 (nI had ||| x3e91)) (nxS A had - 1) fuel h 1 (by omega) (by omega) (by unfold fuel; omega) hG M K T
      have G1 := w1.1.Gr hG
      have P1 := w1.lk.mp P
      have hlen : (l ++ [nxS A had]).length = l.length + 1 := by simp
      have w2 : Lp h (mm_si (mm_si h1 243 l.length (nI (nxS A had))) 230 24 (nI (l.length + 1))) := w1.lk.lp.tr (Lp.si43.tr Lp.si24)
      obtain ⟨h2, e2, w3, K3, P3⟩ := ih f (mm_si (mm_si h1 243 l.length (nI (nxS A had))) 230 24 (nI (l.length + 1))) (l ++ [nxS A had]) (had ||| nxS A had) (by rw [hlen]; omega) (by omega) G1.si.si (w2.ms M) (K1.cong (by rw [si_o2 (by decide), si_o (by decide)]) (by rw [si_c (by decide), si_c (by decide)])) (fun y hy hwy hx => by rw [si_c (by decide), si_c (by decide), w1.1.2.2.2.2.2 244 (by decide)]; exact T y hy hwy hx) (P1.add (by omega)) (or_lt hh hs) (wi_or wh hw.1) (by omega)
      refine ⟨h2, ?_, w2.tr w3, K3, by rw [if_neg c]; simpa using P3⟩
      rw [if_neg c]
      refine e1.trans ?_
      rw [r_25 G1, bS, r_I G1, bS, P1.1, sI_g G1 (by decide) (by decide) (show l.length < 7 by omega), bS, r_I G1.si, bS, si_o (by decide), P1.1, cl_add, r_P G1.si, bS, nx_or]
      exact e2
section
variable {h : MH} {z : ZS}
theorem y_least (hz : OkZ z) (hG : Gr h) (M : MX h z) : ∃ h', f_X10_least h 230 = some ((opLeast z).1, h') ∧ MX h' (opLeast z).2 ∧ Only h h' MF := by
  have hA := hz.1
  have hu := unlike_lt hA
  obtain ⟨h1, e1, w1, K1, T1⟩ := fewest_eq hG hA M.1 M.2.1
  have G1 := w1.1.Gr hG
  have bT := TS_small hA (show 0 < 128 by decide)
  unfold f_X10_least
  rw [r_K hG, unlikeM_eq hG hA M.1, bS, e1, bS, r_26 G1, bS, aI_lit, aI_s G1 (by decide) (by decide) (show 0 < 128 by decide) (T1 0 (by decide) (wi_0 _) (Nat.zero_le _)), bS, it_eq1 (by omega) (by decide)]
  by_cases c : TS (zA z) 0 < 99
  · have eO : opLeast z = (nI (leastS (zA z)).length, (zA z, leastS (zA z), zT z, none)) := by unfold opLeast; rw [if_pos c]
    have w2 : Lp (mm_si h1 230 28 0) (mm_si (mm_si h1 230 28 0) 230 24 0) := Lp.si24
    have o0 : Only h (mm_si h1 230 28 0) MF := w1.mf.tr (Only.si (by unfold MF; omega))
    have M2 : MS (mm_si (mm_si h1 230 28 0) 230 24 0) (zA z) := w2.ms ((w1.ms M.1).cong (fun k hk => by rw [si_o2 (by omega)]) (fun a _ _ => si_c (by omega)))
    obtain ⟨h3, e3, w3, K3, P3⟩ := least_L35 hA (fun he118 => (gI he118 230 10 24).bind fun v119 => some (v119, he118)) 7 fuel (mm_si (mm_si h1 230 28 0) 230 24 0) [] 0 rfl (by decide) G1.si.si M2 (K1.cong (by rw [si_o2 (by decide), si_o2 (by decide)]) (by rw [si_c (by decide), si_c (by decide)])) (fun y hy hw hx => by rw [si_c (by decide), si_c (by decide)]; exact T1 y hy hw hx) ⟨by rw [si_s]; rfl, by simp, fun i s hi => by simp at hi⟩ (by decide) (wi_0 _) (by omega)
    have w23 := w2.tr w3
    have P3' : MP h3 (leastS (zA z)) := by simpa [leastS] using P3
    have T3 : MT h3 (zT z) := by
      refine w23.mt ?_
      have := w1.mt M.2.2.2.1
      unfold MT at this ⊢
      rw [si_o2 (by decide), si_o2 (by decide), si_c (by decide)]; exact this
    have R3 : mm_I h3 230 28 = 0 := by rw [w23.2 28 (by decide) (by decide) (by decide) (by decide), si_s]
    rw [eO]
    refine ⟨h3, ?_, ⟨w3.ms M2, K3, P3', T3, R3⟩, o0.tr w23.mf⟩
    rw [if_neg (by omega), r_Z0 G1, bS, r_P G1.si, bS]
    refine e3.trans ?_
    rw [r_I (w3.1.Gr G1.si.si), bS, P3'.1]
  · have eO : opLeast z = (-1, z) := by unfold opLeast; rw [if_neg c]
    rw [eO]
    refine ⟨h1, ?_, w1.mx K1 M, w1.mf⟩
    rw [if_pos (by omega)]
end

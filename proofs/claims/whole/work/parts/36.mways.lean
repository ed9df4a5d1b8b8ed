/-! ===== the reference: its ways, and whether a want is met ===== -/
section
variable {h : MH}
theorem r_K {α : Type} {x : Option α} (hG : Gr h) : gK h 230 10 x = x := gK_g hG (by decide) (by decide)
theorem r_I {k : Nat} (hG : Gr h) : gI h 230 10 k = some (mm_I h 230 k) := gI_g hG (by decide) (by decide)
theorem r_P {k : Nat} {x : Int32} (hG : Gr h) : pI h 230 10 k x = some (mm_si h 230 k x) := pI_g hG (by decide) (by decide)
theorem r_Z0 {k : Nat} (hG : Gr h) : pZ h 230 10 k 0 = some (mm_si h 230 k 0) := pZ_g hG (by decide) (by decide) (Or.inl rfl)
theorem r_Z1 {k : Nat} (hG : Gr h) : pZ h 230 10 k 1 = some (mm_si h 230 k 1) := pZ_g hG (by decide) (by decide) (Or.inr rfl)
theorem r_3 (hG : Gr h) : gR h 230 10 3 = some 231 := gR_g hG (by decide) (by decide) rfl
theorem r_4 (hG : Gr h) : gR h 230 10 4 = some 232 := gR_g hG (by decide) (by decide) rfl
theorem r_5 (hG : Gr h) : gR h 230 10 5 = some 233 := gR_g hG (by decide) (by decide) rfl
theorem r_6 (hG : Gr h) : gR h 230 10 6 = some 234 := gR_g hG (by decide) (by decide) rfl
theorem r_7 (hG : Gr h) : gR h 230 10 7 = some 235 := gR_g hG (by decide) (by decide) rfl
theorem r_8 (hG : Gr h) : gR h 230 10 8 = some 236 := gR_g hG (by decide) (by decide) rfl
theorem r_9 (hG : Gr h) : gR h 230 10 9 = some 237 := gR_g hG (by decide) (by decide) rfl
theorem r_10 (hG : Gr h) : gR h 230 10 10 = some 238 := gR_g hG (by decide) (by decide) rfl
theorem r_12 (hG : Gr h) : gR h 230 10 12 = some 240 := gR_g hG (by decide) (by decide) rfl
theorem r_22 (hG : Gr h) : gR h 230 10 22 = some 241 := gR_g hG (by decide) (by decide) rfl
theorem r_23 (hG : Gr h) : gR h 230 10 23 = some 242 := gR_g hG (by decide) (by decide) rfl
theorem r_25 (hG : Gr h) : gR h 230 10 25 = some 243 := gR_g hG (by decide) (by decide) rfl
theorem r_26 (hG : Gr h) : gR h 230 10 26 = some 244 := gR_g hG (by decide) (by decide) rfl
theorem r_27 (hG : Gr h) : gR h 230 10 27 = some 245 := gR_g hG (by decide) (by decide) rfl
theorem r_33 (hG : Gr h) : gR h 230 10 33 = some 246 := gR_g hG (by decide) (by decide) rfl
theorem r_34 (hG : Gr h) : gR h 230 10 34 = some 247 := gR_g hG (by decide) (by decide) rfl
theorem r_35 (hG : Gr h) : gR h 230 10 35 = some 248 := gR_g hG (by decide) (by decide) rfl
theorem r_36 (hG : Gr h) : gR h 230 10 36 = some 249 := gR_g hG (by decide) (by decide) rfl
theorem r_37 (hG : Gr h) : gR h 230 10 37 = some 250 := gR_g hG (by decide) (by decide) rfl
theorem r_38 (hG : Gr h) : gR h 230 10 38 = some 251 := gR_g hG (by decide) (by decide) rfl
end
/-- the path at hand -/
def Wp (h : MH) (p : List Nat) (e : Int32) : Prop := mm_I h 230 13 = nI p.length ∧ mm_I h 230 14 = e ∧ ∀ (i s : Nat), p[i]? = some s → mm_I h 237 i = nI s
/-- what a way writes, the old path apart -/
def Wo (h h' : MH) : Prop := Wk h h' ∧ mm_I h' 238 = mm_I h 238
theorem Wo.rf {h : MH} : Wo h h := ⟨Wk.rf, rfl⟩
theorem Wo.tr {h h1 h2 : MH} (a : Wo h h1) (b : Wo h1 h2) : Wo h h2 := ⟨a.1.tr b.1, b.2.trans a.2⟩
theorem Wo.si0 {h : MH} {k : Nat} {x : Int32} (hk : k = 13 ∨ k = 14) : Wo h (mm_si h 230 k x) := ⟨Wk.si0 hk, by funext j; rw [si_o (by decide)]⟩
theorem Wo.si1 {h : MH} {k : Nat} {x : Int32} : Wo h (mm_si h 237 k x) := ⟨Wk.si1 (Or.inl rfl), by funext j; rw [si_o (by decide)]⟩
theorem pc_bit {m s : Nat} (hm : m < 128) (hs : s < 7) (hb : bit m s = 0) : pc m + 1 ≤ pc (m ||| 2 ^ s) := by
  have q : ∀ m, m < 128 → ∀ s, s < 7 → bit m s = 0 → pc m + 1 ≤ pc (m ||| 2 ^ s) := by decide +kernel
  exact q m hm s hs hb
theorem pc_from : ∀ (p : List Nat) (m0 : Nat), m0 < 128 → (∀ s ∈ p, s < 7 ∧ bit m0 s = 0) → p.Nodup → pc m0 + p.length ≤ 7
  | [], m0, hm, _, _ => by have := pc_le hm; simpa using this
  | s :: p, m0, hm, hs, hd => by
    have h1 := hs s (by simp)
    rw [List.nodup_cons] at hd
    have h2 := pc_bit hm h1.1 h1.2
    have h3 := pc_from p (m0 ||| 2 ^ s) (bit_or hm h1.1 h1.1).1 (fun t ht => ⟨(hs t (by simp [ht])).1, (bit_or hm h1.1 (hs t (by simp [ht])).1).2.mpr ⟨(hs t (by simp [ht])).2, fun e => hd.1 (e ▸ ht)⟩⟩) hd.2
    rw [List.length_cons]; omega
theorem nd_len {p : List Nat} (hs : ∀ s ∈ p, s < 7) (hd : p.Nodup) : p.length ≤ 7 := by
  have := pc_from p 0 (by decide) (fun s h => ⟨hs s h, by simp [bit]⟩) hd
  omega
theorem nd_mem {p : List Nat} {t : Nat} (hs : ∀ s ∈ p, s < 7) (hd : p.Nodup) (h7 : 7 ≤ p.length) (ht : t < 7) : t ∈ p := by
  apply Decidable.byContradiction
  intro c
  have := nd_len (p := t :: p) (fun s h => by rcases List.mem_cons.mp h with e | e; exact e ▸ ht; exact hs s e) (List.nodup_cons.mpr ⟨c, hd⟩)
  rw [List.length_cons] at this; omega
theorem nd_app {p : List Nat} {t : Nat} (hd : p.Nodup) (c : t ∉ p) : (p ++ [t]).Nodup := by
  rw [List.nodup_append]
  refine ⟨hd, by simp, fun a ha b hb e => ?_⟩
  simp at hb
  exact c (hb ▸ e ▸ ha)
theorem walks_L {A : SA} (hA : OkA A) {mix m : Nat} (hx : mix < 128) (hm : m < 16) (k : MH → Option MH) :
    ∀ (n f : Nat) (h : MH) (p : List Nat) (s : Nat), n + p.length = 7 → n < f → Gr h → MS h A → Wp h p (-1) → (∀ t ∈ p ++ [s], t < 7) → (p ++ [s]).Nodup → 1 ≤ n →
      ∃ h', f_X10_walks_L23 k 230 (nI mix) (nI m) f h (nI s) (nI (mask p)) = k h' ∧ Wo h h' ∧ Wp h' (wkS (goS A mix m) n p s).1 (nI (wkS (goS A mix m) n p s).2) := by
  intro n
  induction n with
  | zero => intro f h p s _ _ _ _ _ _ _ h1; omega
  | succ n ih =>
    intro f h p s hn hf hG M hq hs hd _
    obtain ⟨f, rfl⟩ : ∃ g, f = g + 1 := ⟨f - 1, by omega⟩
    have hs7 : s < 7 := hs s (by simp)
    have hgo := goS_lt hA (mix := mix) (m := m) hs7
    have hlen : (p ++ [s]).length = p.length + 1 := by simp
    obtain ⟨q1, q2, q3⟩ := hq
    have w2 : Wo h (mm_si (mm_si h 237 p.length (nI s)) 230 13 (nI (p.length + 1))) := Wo.si1.tr (Wo.si0 (Or.inl rfl))
    have Q2 : Wp (mm_si (mm_si h 237 p.length (nI s)) 230 13 (nI (p.length + 1))) (p ++ [s]) (-1) := by
      refine ⟨by rw [si_s, hlen], by rw [si_o2 (by decide), si_o (by decide)]; exact q2, fun i t hi => ?_⟩
      rw [si_o (by decide)]
      by_cases ei : i = p.length
      · subst ei
        rw [List.getElem?_append_right (Nat.le_refl _)] at hi
        simp at hi
        rw [si_s, hi]
      · rw [si_o2 ei]
        refine q3 i t ?_
        have hlt : i < (p ++ [s]).length := (List.getElem?_eq_some_iff.mp hi).1
        rw [List.getElem?_append_left (by omega)] at hi
        exact hi
    rw [f_X10_walks_L23, r_I hG, bS, q2, if_pos rfl, r_9 hG, bS, r_I hG, bS, q1, sI_g hG (by decide) (by decide) (show p.length < 8 by omega), bS, r_I hG.si, bS, si_o (by decide), q1, cl_add, r_P hG.si, bS, nx_bt hx hs7]
    generalize mm_si (mm_si h 237 p.length (nI s)) 230 13 (nI (p.length + 1)) = h2 at w2 Q2 ⊢
    have G2 := w2.1.1.Gr hG
    have M2 := w2.1.ms M
    rw [goes_eq G2 hA M2 hs7 hm, bS, it_lt1 (by omega) (by decide), nx_shl hs7, nx_or, ← mask_app]
    rw [wkS]
    by_cases c : 100 ≤ goS A mix m s
    · rw [if_neg (by omega), if_pos c, cl_sub (by omega), r_P G2, bS]
      obtain ⟨f, rfl⟩ : ∃ g, f = g + 1 := ⟨f - 1, by omega⟩
      refine ⟨mm_si h2 230 14 (nI (goS A mix m s - 100)), ?_, w2.tr (Wo.si0 (Or.inr rfl)), by rw [si_o2 (by decide)]; exact Q2.1, by rw [si_s], fun i t hi => by rw [si_o (by decide)]; exact Q2.2.2 i t hi⟩
      rw [f_X10_walks_L23, r_I G2.si, bS, si_s, it_m1 (by omega)]
    · have hg7 : goS A mix m s < 7 := by omega
      have hbl := bit_lt (mask (p ++ [s])) (goS A mix m s)
      have hb := mask_bit hs hg7
      rw [if_pos (by omega), if_neg c, nx_bt (mask_lt hs) hg7, it_eq1 (by omega) (by decide)]
      by_cases c2 : goS A mix m s ∈ p ++ [s]
      · have cb : bit (mask (p ++ [s])) (goS A mix m s) = 1 := by
          have : ¬ bit (mask (p ++ [s])) (goS A mix m s) = 0 := fun z => (hb.mp z) c2
          omega
        rw [if_pos cb, if_pos (Or.inl c2), r_P G2, bS]
        obtain ⟨f, rfl⟩ : ∃ g, f = g + 1 := ⟨f - 1, by omega⟩
        refine ⟨mm_si h2 230 14 12, ?_, w2.tr (Wo.si0 (Or.inr rfl)), by rw [si_o2 (by decide)]; exact Q2.1, by rw [si_s]; rfl, fun i t hi => by rw [si_o (by decide)]; exact Q2.2.2 i t hi⟩
        rw [f_X10_walks_L23, r_I G2.si, bS, si_s, if_neg (by decide)]
      · have cb : bit (mask (p ++ [s])) (goS A mix m s) = 0 := hb.mpr c2
        have hn0 : ¬ n = 0 := fun z => c2 (nd_mem hs hd (by rw [hlen]; omega) hg7)
        rw [if_neg (by omega), if_neg (fun z => z.elim c2 hn0)]
        obtain ⟨h3, e3, w3, Q3⟩ := ih f h2 (p ++ [s]) (goS A mix m s) (by rw [hlen]; omega) (by omega) G2 M2 Q2 (fun t ht => (List.mem_append.mp ht).elim (hs t) (fun z => by simp at z; omega)) (nd_app hd c2) (by omega)
        exact ⟨h3, e3, w2.tr w3, Q3⟩
theorem walks_eq {h : MH} {A : SA} (hG : Gr h) (hA : OkA A) (M : MS h A) {mix x m : Nat} (hx : x < sh A) (hmx : mix < 128) (hm : m < 16) :
    ∃ h', f_X10_walks h 230 (nI mix) (nI x) (nI m) = some h' ∧ Wo h h' ∧ Wp h' (wayS A mix x m).1 (nI (wayS A mix x m).2) := by
  have hq := hA.2.2.2.2.1 x hx
  have h6 := hA.2.2.1
  have w1 : Wo h (mm_si (mm_si h 230 13 0) 230 14 (-1)) := (Wo.si0 (Or.inl rfl)).tr (Wo.si0 (Or.inr rfl))
  obtain ⟨h2, e2, w2, Q2⟩ := walks_L hA hmx hm (fun he => some he) 7 fuel (mm_si (mm_si h 230 13 0) 230 14 (-1)) [] (sq A x / 4) rfl (by decide) hG.si.si (w1.1.ms M) ⟨by rw [si_o2 (by decide), si_s]; rfl, by rw [si_s], fun i s hi => by simp at hi⟩ (fun t ht => by simp at ht; omega) (by simp) (by decide)
  refine ⟨h2, ?_, w1.tr w2, Q2⟩
  unfold f_X10_walks
  rw [r_K hG, r_5 hG, bS, aI_s hG (by decide) (by decide) (show x < 6 by omega) (M.2.2.2.2.2.1 x hx), bS, r_P hG, bS, r_P hG.si, bS, cl_div (by omega) (by decide) (by decide)]
  exact e2
/-- wants -/
theorem want_g {h : MH} {A : SA} (hG : Gr h) (hA : OkA A) (M : MS h A) {i j : Nat} (hi : i < sw A) (hj : j < 6) : aI h 236 (nI (6 * i + j)) = some (sx A i j) := by
  have h10 := hA.2.2.2.2.2.2.1
  rw [aI_g hG (by decide) (by decide) (show 6 * i + j < 60 by omega), M.2.2.2.2.2.2.2.2 i hi j hj]
theorem want_0 {h : MH} {A : SA} (hG : Gr h) (hA : OkA A) (M : MS h A) {i : Nat} (hi : i < sw A) : aI h 236 (nI (6 * i)) = some (sx A i 0) := by
  have := want_g hG hA M hi (show 0 < 6 by decide)
  rw [Nat.add_zero] at this
  exact this
theorem path_g {h : MH} {p : List Nat} {e : Int32} (hG : Gr h) (Q : Wp h p e) (h7 : p.length ≤ 7) {j : Nat} (hj : j < p.length) : aI h 237 (nI j) = some (nI p[j]) := by
  rw [aI_g hG (by decide) (by decide) (show j < 8 by omega), Q.2.2 j p[j] (List.getElem?_eq_getElem hj)]
theorem past_L {h : MH} {A : SA} {p : List Nat} {e : Int32} (hG : Gr h) (hA : OkA A) (M : MS h A) {i : Nat} (hi : i < sw A) (Q : Wp h p e) (h7 : p.length ≤ 7) (k : Int32 → Option (Int32 × MH)) :
    ∀ (n f j : Nat) (b : Bool), n + j = p.length → n < f → f_X10_isKept_L113 k h 230 (nI i) f (b2 b) (nI j) = k (b2 (b || (p.drop j).any (fun t => nI t == sx A i 5)))
  | 0, f, j, b, hn, hf => by
    obtain ⟨f, rfl⟩ : ∃ g, f = g + 1 := ⟨f - 1, by omega⟩
    rw [f_X10_isKept_L113, r_I hG, bS, Q.1, in_le (by omega) (by omega), if_pos (by omega), List.drop_of_length_le (by omega)]
    simp
  | n + 1, f, j, b, hn, hf => by
    obtain ⟨f, rfl⟩ : ∃ g, f = g + 1 := ⟨f - 1, by omega⟩
    have hj : j < p.length := by omega
    have ih := fun b => past_L hG hA M hi Q h7 k n f (j + 1) b (by omega) (by omega)
    rw [f_X10_isKept_L113, r_I hG, bS, Q.1, in_le (by omega) (by omega), if_neg (by omega), b2_it, cl_add, List.drop_eq_getElem_cons hj, List.any_cons]
    cases b with
    | true =>
      rw [if_pos rfl]
      have := ih true
      simpa [b2] using this
    | false =>
      rw [if_neg (by decide), r_9 hG, bS, path_g hG Q h7 hj, bS, r_8 hG, bS, cl_mul2, cl_add, want_g hG hA M hi (by decide), bS]
      by_cases c : nI p[j] = sx A i 5
      · rw [if_pos c]
        have := ih true
        simpa [b2, c] using this
      · rw [if_neg c]
        have := ih false
        simpa [b2, c] using this
theorem zR_b (b : Bool) : zR (b2 b) = some (b2 b) := by
  unfold zR
  rw [if_pos (b2_01 b)]
/-- the path laid aside -/
theorem aside_L {p : List Nat} {e x1 x2 x4 : Int32} (h7 : p.length ≤ 7) (k : MH → Option (Int32 × MH)) :
    ∀ (n f : Nat) (h : MH) (j : Nat), n + j = p.length → n < f → Gr h → Wp h p e → (∀ (i s : Nat), i < j → p[i]? = some s → mm_I h 238 i = nI s) →
      ∃ h', f_X10_isWhole_L17 k 230 x1 x2 (nI p.length) x4 f h (nI j) = k h' ∧ Wk h h' ∧ ∀ (i s : Nat), p[i]? = some s → mm_I h' 238 i = nI s := by
  intro n
  induction n with
  | zero =>
    intro f h j hn hf hG Q o
    obtain ⟨f, rfl⟩ : ∃ g, f = g + 1 := ⟨f - 1, by omega⟩
    refine ⟨h, ?_, Wk.rf, fun i s hi => o i s (by have := (List.getElem?_eq_some_iff.mp hi).1; omega) hi⟩
    rw [f_X10_isWhole_L17, in_le (by omega) (by omega), if_pos (by omega)]
  | succ n ih =>
    intro f h j hn hf hG Q o
    obtain ⟨f, rfl⟩ : ∃ g, f = g + 1 := ⟨f - 1, by omega⟩
    have hj : j < p.length := by omega
    obtain ⟨h2, e2, w2, o2⟩ := ih f (mm_si h 238 j (nI p[j])) (j + 1) (by omega) (by omega) hG.si ⟨by rw [si_o (by decide)]; exact Q.1, by rw [si_o (by decide)]; exact Q.2.1, fun i s hi => by rw [si_o (by decide)]; exact Q.2.2 i s hi⟩ (fun i s hi hs => by
      by_cases ei : i = j
      · subst ei
        rw [si_s]
        rw [List.getElem?_eq_getElem hj] at hs
        cases hs; rfl
      · rw [si_o2 ei]; exact o i s (by omega) hs)
    refine ⟨h2, ?_, (Wk.si1 (Or.inr rfl)).tr w2, o2⟩
    rw [f_X10_isWhole_L17, in_le (by omega) (by omega), if_neg (by omega), r_10 hG, bS, r_9 hG, bS, path_g hG Q h7 hj, bS, sI_g hG (by decide) (by decide) (show j < 8 by omega), bS, cl_add]
    exact e2
/-- two paths are compared -/
theorem cmp_iff {p q : List Nat} {j : Nat} (hl : p.length = q.length) (hj : j < p.length) (hj2 : j < q.length) : (q.drop j == p.drop j) = ((q[j] == p[j]) && (q.drop (j + 1) == p.drop (j + 1))) := by
  rw [List.drop_eq_getElem_cons hj, List.drop_eq_getElem_cons hj2, List.cons_beq_cons]
theorem old_g {h : MH} {p : List Nat} (hG : Gr h) (o : ∀ (i s : Nat), p[i]? = some s → mm_I h 238 i = nI s) (h7 : p.length ≤ 7) {j : Nat} (hj : j < p.length) : aI h 238 (nI j) = some (nI p[j]) := by
  rw [aI_g hG (by decide) (by decide) (show j < 8 by omega), o j p[j] (List.getElem?_eq_getElem hj)]
theorem cmp1_L {h : MH} {p q : List Nat} {e x1 x2 x4 : Int32} (hG : Gr h) (hl : p.length = q.length) (h7 : p.length ≤ 7) (hp : ∀ t ∈ p, t < 7) (hq : ∀ t ∈ q, t < 7) (Q : Wp h q e) (o : ∀ (i s : Nat), p[i]? = some s → mm_I h 238 i = nI s) (k : Int32 → Option (Int32 × MH)) :
    ∀ (n f j : Nat) (b : Bool), n + j = p.length → n < f → f_X10_isWhole_L87 k h 230 x1 x2 (nI p.length) x4 f (b2 b) (nI j) = k (b2 (b && (q.drop j == p.drop j)))
  | 0, f, j, b, hn, hf => by
    obtain ⟨f, rfl⟩ : ∃ g, f = g + 1 := ⟨f - 1, by omega⟩
    rw [f_X10_isWhole_L87, in_le (by omega) (by omega), if_pos (by omega), List.drop_of_length_le (by omega), List.drop_of_length_le (by omega)]
    simp
  | n + 1, f, j, b, hn, hf => by
    obtain ⟨f, rfl⟩ : ∃ g, f = g + 1 := ⟨f - 1, by omega⟩
    have hj : j < p.length := by omega
    have hjq : j < q.length := by omega
    have p7 := hp _ (List.getElem_mem hj)
    have q7 := hq _ (List.getElem_mem hjq)
    have ih := fun b => cmp1_L (x1 := x1) (x2 := x2) (x4 := x4) hG hl h7 hp hq Q o k n f (j + 1) b (by omega) (by omega)
    rw [f_X10_isWhole_L87, in_le (by omega) (by omega), if_neg (by omega), b2_it, cmp_iff hl hj hjq]
    cases b with
    | false => rw [if_neg (by decide)]; simp
    | true =>
      rw [if_pos rfl, r_9 hG, bS, path_g hG Q (by omega) hjq, bS, r_10 hG, bS, old_g hG o h7 hj, bS, in_eq (by omega) (by omega), cl_add]
      by_cases c : q[j] = p[j]
      · rw [if_pos c]
        have := ih true
        simpa [b2, c] using this
      · rw [if_neg c]
        have := ih false
        simpa [b2, c] using this
theorem cmp2_L {h : MH} {p q : List Nat} {e x5 : Int32} (hG : Gr h) (hl : p.length = q.length) (h7 : p.length ≤ 7) (hp : ∀ t ∈ p, t < 7) (hq : ∀ t ∈ q, t < 7) (Q : Wp h q e) (o : ∀ (i s : Nat), p[i]? = some s → mm_I h 238 i = nI s) (k : Int32 → Option (Int32 × MH)) :
    ∀ (n f j : Nat) (b : Bool), n + j = p.length → n < f → f_X10_isWhole_L175 k h 230 (nI p.length) x5 f (b2 b) (nI j) = k (b2 (b && (q.drop j == p.drop j)))
  | 0, f, j, b, hn, hf => by
    obtain ⟨f, rfl⟩ : ∃ g, f = g + 1 := ⟨f - 1, by omega⟩
    rw [f_X10_isWhole_L175, in_le (by omega) (by omega), if_pos (by omega), List.drop_of_length_le (by omega), List.drop_of_length_le (by omega)]
    simp
  | n + 1, f, j, b, hn, hf => by
    obtain ⟨f, rfl⟩ : ∃ g, f = g + 1 := ⟨f - 1, by omega⟩
    have hj : j < p.length := by omega
    have hjq : j < q.length := by omega
    have p7 := hp _ (List.getElem_mem hj)
    have q7 := hq _ (List.getElem_mem hjq)
    have ih := fun b => cmp2_L (x5 := x5) hG hl h7 hp hq Q o k n f (j + 1) b (by omega) (by omega)
    rw [f_X10_isWhole_L175, in_le (by omega) (by omega), if_neg (by omega), b2_it, cmp_iff hl hj hjq]
    cases b with
    | false => rw [if_neg (by decide)]; simp
    | true =>
      rw [if_pos rfl, r_9 hG, bS, path_g hG Q (by omega) hjq, bS, r_10 hG, bS, old_g hG o h7 hj, bS, in_eq (by omega) (by omega), cl_add]
      by_cases c : q[j] = p[j]
      · rw [if_pos c]
        have := ih true
        simpa [b2, c] using this
      · rw [if_neg c]
        have := ih false
        simpa [b2, c] using this

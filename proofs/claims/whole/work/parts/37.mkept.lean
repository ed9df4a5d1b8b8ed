/-! ===== the reference: wants that hold, kept wants, why ===== -/
theorem cmp0_1 {h : MH} {x1 x2 x3 x4 : Int32} (k : Int32 → Option (Int32 × MH)) {f : Nat} (hf : 0 < f) : f_X10_isWhole_L87 k h 230 x1 x2 x3 x4 f 0 0 = k 0 := by
  obtain ⟨f, rfl⟩ : ∃ g, f = g + 1 := ⟨f - 1, by omega⟩
  rw [f_X10_isWhole_L87]
  split
  · rfl
  · rw [if_pos rfl]
theorem cmp0_2 {h : MH} {x3 x5 : Int32} (k : Int32 → Option (Int32 × MH)) {f : Nat} (hf : 0 < f) : f_X10_isWhole_L175 k h 230 x3 x5 f 0 0 = k 0 := by
  obtain ⟨f, rfl⟩ : ∃ g, f = g + 1 := ⟨f - 1, by omega⟩
  rw [f_X10_isWhole_L175]
  split
  · rfl
  · rw [if_pos rfl]
theorem pair_beq {p q : List Nat} {e d : Nat} : (((p, e) : List Nat × Nat) == (q, d)) = ((p == q) && (e == d)) := rfl
theorem len_beq {p q : List Nat} (c : ¬ q.length = p.length) : (p == q) = false := by
  cases hq : (p == q) with
  | false => rfl
  | true => exact absurd (by rw [eq_of_beq hq]) c
theorem beq_sw {p q : List Nat} : (q == p) = (p == q) := by
  apply Bool.eq_iff_iff.mpr
  rw [beq_iff_eq, beq_iff_eq]
  exact ⟨Eq.symm, Eq.symm⟩
section
variable {h : MH} {A : SA}
/-- the second half of isWhole: the way by the new book is compared -/
theorem fresh_eq {p q : List Nat} {e d : Nat} (hG : Gr h) (h7 : p.length ≤ 7) (hp : ∀ t ∈ p, t < 7) (q7 : q.length ≤ 7) (hq : ∀ t ∈ q, t < 7) (he : e < 13) (hd : d < 13) (Q : Wp h q (nI d)) (o : ∀ (i s : Nat), p[i]? = some s → mm_I h 238 i = nI s) (b : Bool) :
    (gI h 230 10 13).bind (fun v149 => (if v149 = nI p.length then ((gI h 230 10 14).bind fun v157 => (if v157 = nI e then (f_X10_isWhole_j170 h 230 (nI p.length) (b2 b) (1 : Int32)) else (f_X10_isWhole_j169 h 230 (nI p.length) (b2 b)))) else (f_X10_isWhole_j169 h 230 (nI p.length) (b2 b)))) = some (b2 (b || ((p, e) == (q, d))), h) := by
  have fin : ∀ c : Bool, (if b2 b = 0 then (if b2 c = 0 then some ((0 : Int32), h) else some ((1 : Int32), h)) else some ((1 : Int32), h)) = some (b2 (b || c), h) := fun c => by cases b <;> cases c <;> rfl
  have zero : f_X10_isWhole_j169 h 230 (nI p.length) (b2 b) = some (b2 (b || false), h) := by
    unfold f_X10_isWhole_j169 f_X10_isWhole_j170
    rw [cmp0_2 _ (by decide)]
    exact fin false
  rw [r_I hG, bS, Q.1, in_eq (by omega) (by omega), zero, pair_beq]
  by_cases c : q.length = p.length
  · rw [if_pos c, r_I hG, bS, Q.2.1, in_eq (by omega) (by omega)]
    by_cases c2 : d = e
    · rw [if_pos c2]
      unfold f_X10_isWhole_j170
      have := cmp2_L (x5 := b2 b) hG c.symm h7 hp hq Q o (fun x6e216 => (if b2 b = 0 then ((if x6e216 = 0 then (some ((0 : Int32), h)) else (some ((1 : Int32), h)))) else (some ((1 : Int32), h)))) p.length fuel 0 true (by omega) (by unfold fuel; omega)
      refine this.trans ?_
      rw [List.drop_zero, List.drop_zero, Bool.true_and]
      refine (fin _).trans ?_
      rw [beq_sw, c2]; simp
    · rw [if_neg c2]
      have : (e == d) = false := by simpa using fun z => c2 z.symm
      rw [this, Bool.and_false]
  · rw [if_neg c, len_beq c, Bool.false_and]
theorem all_eq (hG : Gr h) (hA : OkA A) (M : MS h A) : f_X10_all h 230 = some (nI (allS A)) := by
  have h7 := hA.2.1
  unfold f_X10_all
  rw [r_K hG, r_I hG, bS, M.1, nx_shl8 (by omega), cl_sub (by show 1 ≤ 2 ^ sn A; exact Nat.pow_pos (by decide))]
  rfl
theorem isWhole_eq {p : List Nat} {e i m a : Nat} (hG : Gr h) (hA : OkA A) (M : MS h A) (hi : i < sw A) (hm : m < 16) (ha : sx A i 3 = nI a) (has : a < sh A) (h7 : p.length ≤ 7) (hp : ∀ t ∈ p, t < 7) (he : e < 13) (Q : Wp h p (nI e)) :
    ∃ h', f_X10_isWhole h 230 (nI i) (nI m) = some (b2 (((p, e) == wayS A 0 a m) || ((p, e) == wayS A (allS A) a m)), h') ∧ Wk h h' := by
  have w0 := way_ok hA (mix := 0) (m := m) has
  have wN := way_ok hA (mix := allS A) (m := m) has
  obtain ⟨h1, e1, w1, o1⟩ := aside_L (x1 := nI i) (x2 := nI m) (x4 := nI e) h7 (fun he43 => (gR he43 230 10 8).bind fun b46 => (aI he43 b46 (((6 : Int32) * nI i) + (3 : Int32))).bind fun v55 => (f_X10_walks he43 230 (0 : Int32) v55 (nI m)).bind fun h57 => (gI h57 230 10 13).bind fun v61 => (if v61 = nI p.length then ((gI h57 230 10 14).bind fun v69 => (if v69 = nI e then (f_X10_isWhole_j82 h57 230 (nI i) (nI m) (nI p.length) (nI e) (1 : Int32)) else (f_X10_isWhole_j81 h57 230 (nI i) (nI m) (nI p.length) (nI e)))) else (f_X10_isWhole_j81 h57 230 (nI i) (nI m) (nI p.length) (nI e)))) p.length fuel h 0 (by omega) (by unfold fuel; omega) hG Q (fun i s hi => by omega)
  have G1 := w1.1.Gr hG
  have M1 := w1.ms M
  obtain ⟨h2, e2, w2, Q2⟩ := walks_eq G1 hA M1 has (show 0 < 128 by decide) hm
  have G2 := w2.1.1.Gr G1
  have M2 := w2.1.ms M1
  have o2 : ∀ (i s : Nat), p[i]? = some s → mm_I h2 238 i = nI s := fun i s hi => by rw [w2.2]; exact o1 i s hi
  obtain ⟨h3, e3, w3, Q3⟩ := walks_eq G2 hA M2 has (all_lt hA) hm
  have G3 := w3.1.1.Gr G2
  have o3 : ∀ (i s : Nat), p[i]? = some s → mm_I h3 238 i = nI s := fun i s hi => by rw [w3.2]; exact o2 i s hi
  have second : ∀ b : Bool, ((f_X10_all h2 230).bind fun v130 => (gR h2 230 10 8).bind fun b134 => (aI h2 b134 (((6 : Int32) * nI i) + (3 : Int32))).bind fun v143 => (f_X10_walks h2 230 v130 v143 (nI m)).bind fun h145 => (gI h145 230 10 13).bind fun v149 => (if v149 = nI p.length then ((gI h145 230 10 14).bind fun v157 => (if v157 = nI e then (f_X10_isWhole_j170 h145 230 (nI p.length) (b2 b) (1 : Int32)) else (f_X10_isWhole_j169 h145 230 (nI p.length) (b2 b)))) else (f_X10_isWhole_j169 h145 230 (nI p.length) (b2 b)))) = some (b2 (b || ((p, e) == wayS A (allS A) a m)), h3) := by
    intro b
    rw [all_eq G2 hA M2, bS, r_8 G2, bS, cl_mul2, cl_add, want_g G2 hA M2 hi (by decide), bS, ha, e3, bS]
    exact fresh_eq G3 h7 hp wN.2.1 wN.1 he wN.2.2.2 Q3 o3 b
  have zero : f_X10_isWhole_j81 h2 230 (nI i) (nI m) (nI p.length) (nI e) = some (b2 (false || ((p, e) == wayS A (allS A) a m)), h3) := by
    unfold f_X10_isWhole_j81 f_X10_isWhole_j82
    rw [cmp0_1 _ (by decide)]
    exact second false
  refine ⟨h3, ?_, (w1.tr w2.1).tr w3.1⟩
  unfold f_X10_isWhole
  rw [r_K hG, r_I hG, bS, r_I hG, bS, Q.1, Q.2.1]
  refine e1.trans ?_
  rw [r_8 G1, bS, cl_mul2, cl_add, want_g G1 hA M1 hi (by decide), bS, ha, show (0 : Int32) = nI 0 from rfl, e2, bS, r_I G2, bS, Q2.1, in_eq (by omega) (by omega), zero]
  have hb0 : ((p, e) == wayS A 0 a m) = ((p == (wayS A 0 a m).1) && (e == (wayS A 0 a m).2)) := rfl
  rw [hb0]
  by_cases c : (wayS A 0 a m).1.length = p.length
  · rw [if_pos c, r_I G2, bS, Q2.2.1, in_eq (by omega) (by omega)]
    by_cases c2 : (wayS A 0 a m).2 = e
    · rw [if_pos c2]
      unfold f_X10_isWhole_j82
      have := cmp1_L (x1 := nI i) (x2 := nI m) (x4 := nI e) G2 c.symm h7 hp w0.1 Q2 o2 (fun x5e128 => (f_X10_all h2 230).bind fun v130 => (gR h2 230 10 8).bind fun b134 => (aI h2 b134 (((6 : Int32) * nI i) + (3 : Int32))).bind fun v143 => (f_X10_walks h2 230 v130 v143 (nI m)).bind fun h145 => (gI h145 230 10 13).bind fun v149 => (if v149 = nI p.length then ((gI h145 230 10 14).bind fun v157 => (if v157 = nI e then (f_X10_isWhole_j170 h145 230 (nI p.length) x5e128 (1 : Int32)) else (f_X10_isWhole_j169 h145 230 (nI p.length) x5e128))) else (f_X10_isWhole_j169 h145 230 (nI p.length) x5e128))) p.length fuel 0 true (by omega) (by unfold fuel; omega)
      refine this.trans ?_
      rw [List.drop_zero, List.drop_zero, Bool.true_and]
      refine (second _).trans ?_
      rw [beq_sw, c2]; simp
    · rw [if_neg c2]
      have : (e == (wayS A 0 a m).2) = false := by simpa using fun z => c2 z.symm
      rw [this, Bool.and_false]
  · rw [if_neg c, len_beq c, Bool.false_and]
theorem mKept_eq {p : List Nat} {e i m : Nat} (hG : Gr h) (hA : OkA A) (M : MS h A) (hi : i < sw A) (hm : m < 16) (h7 : p.length ≤ 7) (hp : ∀ t ∈ p, t < 7) (he : e < 13) (Q : Wp h p (nI e)) :
    ∃ h', f_X10_isKept h 230 (nI i) (nI m) = some (b2 (metS A i m (p, e)), h') ∧ Wk h h' := by
  obtain ⟨⟨kd, hk, ek⟩, -, -, ⟨a, has, ha⟩, -⟩ := hA.2.2.2.2.2.2.2 i hi
  have h6 := hA.2.2.1
  have hcl : (sx A i 3).toNatClampNeg = a := by rw [ha, nI_clamp (by omega)]
  have pre : f_X10_isKept h 230 (nI i) (nI m) = (if sx A i 0 = 0 then ((if nI e = sx A i 4 then (some ((1 : Int32), h)) else (some ((0 : Int32), h)))) else (if sx A i 0 = 1 then ((if nI e = (12 : Int32) then (some ((0 : Int32), h)) else (some ((1 : Int32), h)))) else (if sx A i 0 = 2 then ((if nI e = sx A i 4 then (some ((0 : Int32), h)) else (some ((1 : Int32), h)))) else (if sx A i 0 = 3 then ((if nI e = sx A i 4 then (f_X10_isKept_j108 h 230 (nI i) (0 : Int32)) else (f_X10_isKept_j108 h 230 (nI i) (1 : Int32)))) else ((f_X10_isWhole h 230 (nI i) (nI m)).bind fun r167 => (zR r167.1).bind fun vz => some (vz, r167.2)))))) := by
    unfold f_X10_isKept
    rw [r_K hG, r_8 hG, bS, cl_mul2, cl_add, want_g hG hA M hi (by decide), bS, bS, want_0 hG hA M hi, bS, r_I hG, bS, bS, bS, bS, Q.2.1]
  rw [pre]
  unfold metS
  by_cases c0 : sx A i 0 = 0
  · rw [if_pos c0, if_pos c0]
    refine ⟨h, ?_, Wk.rf⟩
    by_cases c : nI e = sx A i 4
    · rw [if_pos c]; simp [c, b2]
    · rw [if_neg c]; simp [c, b2]
  · rw [if_neg c0, if_neg c0]
    by_cases c1 : sx A i 0 = 1
    · rw [if_pos c1, if_pos c1]
      refine ⟨h, ?_, Wk.rf⟩
      rw [it_eq1 (by omega) (by decide)]
      by_cases c : e = 12
      · rw [if_pos c]; simp [c, b2]
      · rw [if_neg c]; simp [c, b2]
    · rw [if_neg c1, if_neg c1]
      by_cases c2 : sx A i 0 = 2
      · rw [if_pos c2, if_pos c2]
        refine ⟨h, ?_, Wk.rf⟩
        by_cases c : nI e = sx A i 4
        · rw [if_pos c]; simp [c, b2]
        · rw [if_neg c]; simp [c, b2]
      · rw [if_neg c2, if_neg c2]
        by_cases c3 : sx A i 0 = 3
        · rw [if_pos c3, if_pos c3]
          refine ⟨h, ?_, Wk.rf⟩
          have go : ∀ b : Bool, f_X10_isKept_j108 h 230 (nI i) (b2 b) = some (b2 (b || p.any (fun t => nI t == sx A i 5)), h) := by
            intro b
            unfold f_X10_isKept_j108
            refine (past_L hG hA M hi Q h7 _ p.length fuel 0 b (by omega) (by unfold fuel; omega)).trans ?_
            rw [zR_b, bS, List.drop_zero]
          by_cases c : nI e = sx A i 4
          · rw [if_pos c]
            refine (go false).trans ?_
            simp [c]
          · rw [if_neg c]
            refine (go true).trans ?_
            have e4 : (nI e == sx A i 4) = false := by simpa using c
            show _ = some (b2 ((!(nI e == sx A i 4)) || p.any (fun t => nI t == sx A i 5)), h)
            rw [e4]; simp
        · rw [if_neg c3, if_neg c3, hcl]
          obtain ⟨h1, e1, w1⟩ := isWhole_eq hG hA M hi hm ha has h7 hp he Q
          refine ⟨h1, ?_, w1⟩
          rw [e1, bS, zR_b, bS]
theorem breaks_L (hA : OkA A) {mix i : Nat} (hx : mix < 128) (hi : i < sw A) (k : MH → Option (Int32 × MH)) :
    ∀ (n f : Nat) (h : MH) (m : Nat), n + m = 16 → n < f → Gr h → MS h A →
      ∃ h', Wk h h' ∧ f_X10_breaks_L2 k 230 (nI i) (nI mix) f h (nI m) = (if lst (badP A i mix) n m = 16 then k h' else some (nI (lst (badP A i mix) n m), h')) := by
  intro n
  induction n with
  | zero =>
    intro f h m hn hf hG M
    obtain ⟨f, rfl⟩ : ∃ g, f = g + 1 := ⟨f - 1, by omega⟩
    refine ⟨h, Wk.rf, ?_⟩
    rw [f_X10_breaks_L2, it_le2 (by omega) (by decide), if_pos (by omega)]
    rw [show lst (badP A i mix) 0 m = 16 by unfold lst; omega, if_pos rfl]
  | succ n ih =>
    intro f h m hn hf hG M
    obtain ⟨f, rfl⟩ : ∃ g, f = g + 1 := ⟨f - 1, by omega⟩
    have hm : m < 16 := by omega
    obtain ⟨-, ⟨v, hv, ev⟩, ⟨b, hb, eb⟩, ⟨a, has, ha⟩, -⟩ := hA.2.2.2.2.2.2.2 i hi
    have h6 := hA.2.2.1
    have hcl : (sx A i 3).toNatClampNeg = a := by rw [ha, nI_clamp (by omega)]
    have esp : spanW A i m = spanB v b m := by unfold spanW; rw [ev, eb, nI_clamp (by omega), nI_clamp (by omega)]
    rw [f_X10_breaks_L2, it_le2 (by omega) (by decide), if_neg (by omega), r_8 hG, bS, cl_mul2, cl_add, want_g hG hA M hi (by decide), bS, bS, cl_add, want_g hG hA M hi (by decide), bS, ev, eb, ofSpan_eq (by omega) (by omega) hm, bS, b2_it, cl_add, bS, cl_add, want_g hG hA M hi (by decide), bS, ha, ← esp]
    by_cases cs : spanW A i m = true
    · rw [if_pos cs]
      obtain ⟨h1, e1, w1, Q1⟩ := walks_eq hG hA M has hx hm
      have G1 := w1.1.1.Gr hG
      have M1 := w1.1.ms M
      have wk := way_ok hA (mix := mix) (m := m) has
      obtain ⟨h2, e2, w2⟩ := mKept_eq G1 hA M1 hi hm wk.2.1 wk.1 wk.2.2.2 Q1
      have G2 := w2.1.Gr G1
      have M2 := w2.ms M1
      rw [e1, bS, e2, bS, b2_it]
      by_cases cm : metS A i m (wayS A mix a m) = true
      · have ep : badP A i mix m = false := by unfold badP; rw [hcl, cm]; simp
        obtain ⟨h3, w3, e3⟩ := ih f h2 (m + 1) (by omega) (by omega) G2 M2
        refine ⟨h3, (w1.1.tr w2).tr w3, ?_⟩
        rw [if_pos (by exact cm), e3]
        rw [show lst (badP A i mix) (n + 1) m = lst (badP A i mix) n (m + 1) by rw [lst, ep]; rfl]
      · have ep : badP A i mix m = true := by unfold badP; rw [hcl, cs]; simpa using cm
        refine ⟨h2, w1.1.tr w2, ?_⟩
        rw [if_neg (by exact cm), show lst (badP A i mix) (n + 1) m = m by rw [lst, ep]; rfl, if_neg (by omega)]
    · have ep : badP A i mix m = false := by unfold badP; simp [cs]
      obtain ⟨h3, w3, e3⟩ := ih f h (m + 1) (by omega) (by omega) hG M
      refine ⟨h3, w3, ?_⟩
      rw [if_neg cs, e3, show lst (badP A i mix) (n + 1) m = lst (badP A i mix) n (m + 1) by rw [lst, ep]; rfl]
theorem breaks_eq (hG : Gr h) (hA : OkA A) (M : MS h A) {mix i : Nat} (hx : mix < 128) (hi : i < sw A) :
    ∃ h', f_X10_breaks h 230 (nI i) (nI mix) = some (bI (badS A i mix), h') ∧ Wk h h' := by
  obtain ⟨h1, w1, e1⟩ := breaks_L hA hx hi (fun he74 => some ((-1 : Int32), he74)) 16 fuel h 0 (by omega) (by decide) hG M
  refine ⟨h1, ?_, w1⟩
  unfold f_X10_breaks
  rw [r_K hG]
  refine e1.trans ?_
  rw [← badS_def]
  unfold bI
  split <;> rfl
theorem bI_it {α : Type} {b : Nat} {x y : α} (hb : b ≤ 16) : (if bI b = (-1 : Int32) then x else y) = (if b = 16 then x else y) := by
  by_cases c : b = 16
  · rw [if_pos c, if_pos ((bI_m1 hb).mpr c)]
  · rw [if_neg c, if_neg (fun z => c ((bI_m1 hb).mp z))]
theorem keptOne_eq (hG : Gr h) (hA : OkA A) (M : MS h A) {i : Nat} (hi : i < sw A) :
    ∃ h', f_X10_isKeptOne h 230 (nI i) = some (b2 (keptS A i), h') ∧ Wk h h' := by
  obtain ⟨h1, e1, w1⟩ := breaks_eq hG hA M (show 0 < 128 by decide) hi
  have G1 := w1.1.Gr hG
  have M1 := w1.ms M
  obtain ⟨h2, e2, w2⟩ := breaks_eq G1 hA M1 (all_lt hA) hi
  unfold f_X10_isKeptOne
  rw [r_K hG, show (0 : Int32) = nI 0 from rfl, e1, bS, bI_it (badS_le _ _ _), all_eq G1 hA M1, bS, e2, bS, bI_it (badS_le _ _ _)]
  unfold keptS
  by_cases c : badS A i 0 = 16
  · rw [if_pos c]
    refine ⟨h2, ?_, w1.tr w2⟩
    by_cases c2 : badS A i (allS A) = 16
    · rw [if_pos c2]; simp [c, c2, b2]
    · rw [if_neg c2]; simp [c, c2, b2]; rfl
  · rw [if_neg c]
    refine ⟨h1, ?_, w1⟩
    simp [c, b2]; rfl
theorem isMix_y (hG : Gr h) (hA : OkA A) (M : MS h A) {j : Nat} (hj : j < 2 ^ sn A) : f_X10_isMixture h 230 (nI j) = some 1 := by
  have hp := all_pow hA
  unfold f_X10_isMixture f_X10_isIn
  rw [r_K hG, all_eq hG hA M, bS, it_neg (by omega), in_lt (by omega) (by omega), if_neg (by omega), bS]
  rfl
theorem isMix_n (hG : Gr h) (hA : OkA A) (M : MS h A) {x : Int32} (c : x < 0 ∨ nI (2 ^ sn A) ≤ x) : f_X10_isMixture h 230 x = some 0 := by
  have hp := all_pow hA
  unfold f_X10_isMixture f_X10_isIn
  rw [r_K hG, all_eq hG hA M, bS]
  by_cases c0 : x < 0
  · rw [if_pos c0, bS]; rfl
  · have := pred_lt (by omega) (by omega) (c.resolve_left c0)
    rw [hp.1] at this
    rw [if_neg c0, if_pos (show nI (allS A) < x from this), bS]; rfl
def brP (A : SA) (mix i : Nat) : Bool := keptS A i && !(badS A i mix == 16)
theorem whyS_def (A : SA) (mix : Nat) : whyS A mix = lst (brP A mix) (sw A) 0 := rfl
theorem why_L (hA : OkA A) {mix : Nat} (hx : mix < 128) (k : MH → Option (Int32 × MH)) {x2 : Int32} :
    ∀ (n f : Nat) (h : MH) (i : Nat), n + i = sw A → n < f → Gr h → MS h A →
      ∃ h', Wk h h' ∧ f_X10_why_L21 k 230 (nI mix) x2 f h (nI i) = (if lst (brP A mix) n i = sw A then k h' else if x2 = 0 then some (nI (lst (brP A mix) n i), h') else some (nI (badS A (lst (brP A mix) n i) mix), h')) := by
  have h10 := hA.2.2.2.2.2.2.1
  intro n
  induction n with
  | zero =>
    intro f h i hn hf hG M
    obtain ⟨f, rfl⟩ : ∃ g, f = g + 1 := ⟨f - 1, by omega⟩
    refine ⟨h, Wk.rf, ?_⟩
    rw [f_X10_why_L21, r_I hG, bS, M.2.2.1, in_le (by omega) (by omega), if_pos (by omega), show lst (brP A mix) 0 i = sw A by unfold lst; omega, if_pos rfl]
  | succ n ih =>
    intro f h i hn hf hG M
    obtain ⟨f, rfl⟩ : ∃ g, f = g + 1 := ⟨f - 1, by omega⟩
    have hi : i < sw A := by omega
    obtain ⟨h1, e1, w1⟩ := keptOne_eq hG hA M hi
    have G1 := w1.1.Gr hG
    have M1 := w1.ms M
    rw [f_X10_why_L21, r_I hG, bS, M.2.2.1, in_le (by omega) (by omega), if_neg (by omega), e1, bS, b2_it]
    have skip : ∀ h', Gr h' → MS h' A → Wk h h' → brP A mix i = false → ∃ h'', Wk h h'' ∧ f_X10_why_j47 (fun x3f21 hf21 => f_X10_why_L21 k 230 (nI mix) x2 f hf21 x3f21) h' 230 (nI mix) x2 (nI i) (-1 : Int32) = (if lst (brP A mix) (n + 1) i = sw A then k h'' else if x2 = 0 then some (nI (lst (brP A mix) (n + 1) i), h'') else some (nI (badS A (lst (brP A mix) (n + 1) i) mix), h'')) := by
      intro h' G' M' w' ep
      obtain ⟨h3, w3, e3⟩ := ih f h' (i + 1) (by omega) (by omega) G' M'
      refine ⟨h3, w'.tr w3, ?_⟩
      unfold f_X10_why_j47
      rw [if_pos rfl, cl_add]
      refine e3.trans ?_
      rw [show lst (brP A mix) (n + 1) i = lst (brP A mix) n (i + 1) by rw [lst, ep]; rfl]
    by_cases ck : keptS A i = true
    · rw [if_pos ck]
      obtain ⟨h2, e2, w2⟩ := breaks_eq G1 hA M1 hx hi
      have G2 := w2.1.Gr G1
      have M2 := w2.ms M1
      rw [e2, bS]
      by_cases cb : badS A i mix = 16
      · have ep : brP A mix i = false := by unfold brP; simp [cb]
        rw [show bI (badS A i mix) = -1 from (bI_m1 (badS_le _ _ _)).mpr cb]
        exact skip h2 G2 M2 (w1.tr w2) ep
      · have ep : brP A mix i = true := by unfold brP; rw [ck]; simpa using cb
        refine ⟨h2, w1.tr w2, ?_⟩
        unfold f_X10_why_j47
        rw [bI_it (badS_le _ _ _), if_neg cb, show lst (brP A mix) (n + 1) i = i by rw [lst, ep]; rfl, if_neg (show ¬ i = sw A by omega), show bI (badS A i mix) = nI (badS A i mix) from if_neg cb]
    · rw [if_neg ck]
      have ep : brP A mix i = false := by unfold brP; simp [ck]
      exact skip h1 G1 M1 w1 ep
/-- why, of a mixture -/
theorem mWhy_eq (hG : Gr h) (hA : OkA A) (M : MS h A) {mix w : Nat} (hx : mix < 2 ^ sn A) (hw : w < 2) :
    ∃ h', f_X10_why h 230 (nI mix) (nI w) = some (if whyS A mix = sw A then -1 else if w = 0 then nI (whyS A mix) else nI (badS A (whyS A mix) mix), h') ∧ Wk h h' := by
  have hp := all_pow hA
  have h10 := hA.2.2.2.2.2.2.1
  obtain ⟨h1, w1, e1⟩ := why_L hA (show mix < 128 by omega) (fun he72 => some ((-1 : Int32), he72)) (x2 := nI w) (sw A) fuel h 0 (by omega) (by unfold fuel; omega) hG M
  refine ⟨h1, ?_, w1⟩
  unfold f_X10_why
  rw [r_K hG, isMix_y hG hA M hx, bS, if_neg (by decide), isInL_y (show w ≤ 1 by omega) (by decide), bS, if_neg (by decide)]
  refine e1.trans ?_
  rw [← whyS_def, it_eq1 (by omega) (by decide)]
  split
  · rfl
  · split <;> rfl
end

/-! ===== the reference: its picture, ranges, ways ===== -/
def thr (c : Nat) : Nat := if c = 0 then 0 else if c < 100 then 1 else 2
def oth (c : Nat) : Nat := if c < 100 then c - 1 else c - 100
def MS (h : MH) (A : SA) : Prop := mm_I h 230 0 = nI (sn A) ∧ mm_I h 230 1 = nI (sh A) ∧ mm_I h 230 2 = nI (sw A) ∧ (∀ k, k < 28 → mm_I h 231 k = nI (thr (sp A k))) ∧ (∀ k, k < 28 → sp A k ≠ 0 → mm_I h 232 k = nI (oth (sp A k))) ∧ (∀ i, i < sh A → mm_I h 233 i = nI (sq A i)) ∧
  (∀ r, r < 14 → mm_I h 234 r = nI (sc A r)) ∧ (∀ r, r < 14 → ∀ i, i < sc A r → ∀ j, j < 4 → mm_I h 235 (24 * r + 4 * i + j) = nI (sd A r i j)) ∧ ∀ i, i < sw A → ∀ j, j < 6 → mm_I h 236 (6 * i + j) = sx A i j
def MK (h : MH) (A : SA) : Prop := mm_I h 230 21 = 0 ∨ (mm_I h 230 21 = 1 ∧ ∀ m, m ≤ allS A → mm_I h 241 m = b2 (goodS A m))
def MP (h : MH) (l : List Nat) : Prop := mm_I h 230 24 = nI l.length ∧ l.length ≤ 7 ∧ ∀ (i s : Nat), l[i]? = some s → mm_I h 243 i = nI s
def MT (h : MH) (t : List Nat × Int32) : Prop := mm_I h 230 19 = nI t.1.length ∧ mm_I h 230 20 = t.2 ∧ ∀ (i s : Nat), t.1[i]? = some s → mm_I h 240 i = nI s
def MPk (h : MH) (k : Nat) (p : PK) : Prop := mm_I h 246 k = nI p.1 ∧ mm_I h 247 k = nI p.2.1 ∧ mm_I h 249 k = p.2.2.2 ∧ mm_I h 250 k = nI p.2.2.1.length ∧ mm_I h 248 k = nI (p.2.2.1.getLastD 0) ∧ ∀ (i s : Nat), p.2.2.1[i]? = some s → mm_I h 251 (8 * k + i) = nI s
def MR (h : MH) (z : Option RN) : Prop := match z with
  | none => mm_I h 230 28 = 0
  | some (at_, ch, ps, br) => mm_I h 230 28 = 1 ∧ mm_I h 230 29 = nI at_ ∧ mm_I h 230 30 = nI ch ∧ mm_I h 230 31 = nI ps.length ∧ mm_I h 230 32 = nI br ∧ ∀ (k : Nat) (p : PK), ps[k]? = some p → MPk h k p
def MX (h : MH) (z : ZS) : Prop := MS h (zA z) ∧ MK h (zA z) ∧ MP h (zP z) ∧ MT h (zT z) ∧ MR h (zR2 z)
theorem MS.cong {h h' : MH} {A : SA} (e0 : ∀ k, k < 3 → mm_I h' 230 k = mm_I h 230 k) (e : ∀ a, 230 < a → a < 237 → mm_I h' a = mm_I h a) (M : MS h A) : MS h' A := by
  obtain ⟨m0, m1, m2, m3, m4, m5, m6, m7, m8⟩ := M
  exact ⟨by rw [e0 0 (by decide)]; exact m0, by rw [e0 1 (by decide)]; exact m1, by rw [e0 2 (by decide)]; exact m2, by rw [e 231 (by decide) (by decide)]; exact m3, by rw [e 232 (by decide) (by decide)]; exact m4, by rw [e 233 (by decide) (by decide)]; exact m5, by rw [e 234 (by decide) (by decide)]; exact m6, by rw [e 235 (by decide) (by decide)]; exact m7, by rw [e 236 (by decide) (by decide)]; exact m8⟩
theorem MR.cong {h h' : MH} {z : Option RN} (e0 : ∀ k, 28 ≤ k → k < 33 → mm_I h' 230 k = mm_I h 230 k) (e : ∀ a, 245 < a → a < 252 → mm_I h' a = mm_I h a) (M : MR h z) : MR h' z := by
  cases z with
  | none => show mm_I h' 230 28 = 0; rw [e0 28 (by decide) (by decide)]; exact M
  | some q =>
    obtain ⟨at_, ch, ps, br⟩ := q
    obtain ⟨m1, m2, m3, m4, m5, m6⟩ := M
    refine ⟨by rw [e0 28 (by decide) (by decide)]; exact m1, by rw [e0 29 (by decide) (by decide)]; exact m2, by rw [e0 30 (by decide) (by decide)]; exact m3, by rw [e0 31 (by decide) (by decide)]; exact m4, by rw [e0 32 (by decide) (by decide)]; exact m5, fun k p hk => ?_⟩
    have := m6 k p hk
    unfold MPk at this ⊢
    rw [e 246 (by decide) (by decide), e 247 (by decide) (by decide), e 248 (by decide) (by decide), e 249 (by decide) (by decide), e 250 (by decide) (by decide), e 251 (by decide) (by decide)]
    exact this
theorem MX.cong {h h' : MH} {z : ZS} (e : ∀ a, 230 ≤ a → a < 252 → mm_I h' a = mm_I h a) (M : MX h z) : MX h' z := by
  obtain ⟨a, b, c, d, f⟩ := M
  have e0 := e 230 (by decide) (by decide)
  refine ⟨a.cong (fun k _ => by rw [e0]) (fun x h1 h2 => e x (by omega) (by omega)), ?_, ?_, ?_, f.cong (fun k _ _ => by rw [e0]) (fun x h1 h2 => e x (by omega) (by omega))⟩
  · unfold MK at b ⊢; rw [e0, e 241 (by decide) (by decide)]; exact b
  · unfold MP at c ⊢; rw [e0, e 243 (by decide) (by decide)]; exact c
  · unfold MT at d ⊢; rw [e0, e 240 (by decide) (by decide)]; exact d
def MF (a : Nat) : Prop := 230 ≤ a ∧ a < 252
/-- what a way writes: the reference's own ints 13 and 14, and its path -/
def Wk (h h' : MH) : Prop := Only h h' (fun a => a = 230 ∨ a = 237 ∨ a = 238) ∧ ∀ k, k ≠ 13 → k ≠ 14 → mm_I h' 230 k = mm_I h 230 k
theorem Wk.rf {h : MH} : Wk h h := ⟨Only.rf, fun _ _ _ => rfl⟩
theorem Wk.tr {h h1 h2 : MH} (a : Wk h h1) (b : Wk h1 h2) : Wk h h2 := ⟨a.1.tr b.1, fun k h1 h2 => (b.2 k h1 h2).trans (a.2 k h1 h2)⟩
theorem Wk.si0 {h : MH} {k : Nat} {x : Int32} (hk : k = 13 ∨ k = 14) : Wk h (mm_si h 230 k x) := ⟨Only.si (Or.inl rfl), fun j h1 h2 => by rw [si_o2 (by omega)]⟩
theorem Wk.si1 {h : MH} {a k : Nat} {x : Int32} (ha : a = 237 ∨ a = 238) : Wk h (mm_si h a k x) := ⟨Only.si (by omega), fun j h1 h2 => by rw [si_o (by omega)]⟩
theorem Wk.ms {h h' : MH} {A : SA} (w : Wk h h') (M : MS h A) : MS h' A := M.cong (fun k hk => w.2 k (by omega) (by omega)) (fun a h1 h2 => w.1.2.2.2.2.2 a (by omega))
theorem Wk.mx {h h' : MH} {z : ZS} (w : Wk h h') (M : MX h z) : MX h' z := by
  obtain ⟨a, b, c, d, f⟩ := M
  refine ⟨w.ms a, ?_, ?_, ?_, f.cong (fun k _ _ => w.2 k (by omega) (by omega)) (fun x h1 h2 => w.1.2.2.2.2.2 x (by omega))⟩
  · unfold MK at b ⊢; rw [w.2 21 (by decide) (by decide), w.1.2.2.2.2.2 241 (by decide)]; exact b
  · unfold MP at c ⊢; rw [w.2 24 (by decide) (by decide), w.1.2.2.2.2.2 243 (by decide)]; exact c
  · unfold MT at d ⊢; rw [w.2 19 (by decide) (by decide), w.2 20 (by decide) (by decide), w.1.2.2.2.2.2 240 (by decide)]; exact d
theorem Wk.mf {h h' : MH} (w : Wk h h') : Only h h' MF := w.1.mono (fun a q => by unfold MF; omega)
section
variable {h : MH}
theorem isIn_y {j n : Nat} (hj : j < n) (hn : n < 2 ^ 30) : f_X10_isIn h (nI j) 0 (nI n - 1) = some 1 := by
  unfold f_X10_isIn
  rw [it_neg (by omega), cl_sub (by show 1 ≤ n; omega), in_lt (by show n - 1 < _; omega) (by omega), if_neg (by show ¬ (n - 1 < j); omega)]
theorem isIn_n {x : Int32} {n : Nat} (hn : n < 2 ^ 30) (c : x < 0 ∨ nI n ≤ x) : f_X10_isIn h x 0 (nI n - 1) = some 0 := by
  unfold f_X10_isIn
  by_cases c0 : x < 0
  · rw [if_pos c0]
  · have c1 := c.resolve_left c0
    rw [if_neg c0, if_pos]
    rw [Int32.le_iff_toInt_le, nI_toInt (by omega)] at c1
    rw [Int32.lt_iff_toInt_lt, show (1 : Int32) = nI 1 from rfl, pk_sub_toInt hn (by decide)]
    omega
theorem isInL_y {j n : Nat} (hj : j ≤ (OfNat.ofNat n : Nat)) (hn : (OfNat.ofNat n : Nat) < 2 ^ 30) : f_X10_isIn h (nI j) 0 (OfNat.ofNat n : Int32) = some 1 := by
  unfold f_X10_isIn
  rw [it_neg (by omega), it_lt2 (by omega) (by exact Nat.lt_trans hn (by decide)), if_neg (by omega)]
theorem isInL_n {x : Int32} {n : Nat} (hn : n + 1 < 2 ^ 30) (c : x < 0 ∨ nI (n + 1) ≤ x) : f_X10_isIn h x 0 (OfNat.ofNat n : Int32) = some 0 := by
  unfold f_X10_isIn
  by_cases c0 : x < 0
  · rw [if_pos c0]
  · have := pred_lt (n := n + 1) (by omega) hn (c.resolve_left c0)
    rw [if_neg c0]
    exact if_pos this
theorem ofSpan_iff {v b m : Nat} (hv : v < 16) (hb : b < 16) (hm : m < 16) : (m &&& b = v &&& b) ↔ spanB v b m = true := by
  have q : ∀ v, v < 16 → ∀ b, b < 16 → ∀ m, m < 16 → ((m &&& b = v &&& b) ↔ spanB v b m = true) := by decide +kernel
  exact q v hv b hb m hm
theorem ofSpan_eq {v b m : Nat} (hv : v < 16) (hb : b < 16) (hm : m < 16) : f_X10_isOfSpan h (nI m) (nI v) (nI b) = some (b2 (spanB v b m)) := by
  have h1 : m &&& b < 16 := Nat.lt_of_le_of_lt Nat.and_le_right hb
  have h2 : v &&& b < 16 := Nat.lt_of_le_of_lt Nat.and_le_right hb
  unfold f_X10_isOfSpan
  rw [nx_and, nx_and, in_eq (by omega) (by omega)]
  by_cases c : spanB v b m = true
  · rw [if_pos ((ofSpan_iff hv hb hm).mpr c), c]; rfl
  · rw [if_neg (fun q => c ((ofSpan_iff hv hb hm).mp q))]
    have c : spanB v b m = false := by simpa using c
    rw [c]; rfl
theorem ruleAt_eq {b s i : Nat} (hG : Gr h) : f_X10_ruleAt h 230 (nI b) (nI s) (nI i) = some (nI (24 * (7 * b + s) + 4 * i)) := by
  unfold f_X10_ruleAt
  rw [gK_g hG (by decide) (by decide), cl_mul2, nI_add, cl_mul2, nI_add, cl_mul2]
  congr 2
  omega
theorem aI_s {a k x : Nat} (hG : Gr h) (ha : a < 252) (hk : gk a = 11) (hx : k < gl a) (e : mm_I h a k = nI x) : aI h a (nI k) = some (nI x) := by rw [aI_g hG ha hk hx, e]
theorem rule_g {A : SA} (hG : Gr h) (hA : OkA A) (M : MS h A) {r i j : Nat} (hr : r < 14) (hi : i < sc A r) (hj : j < 4) : aI h 235 (nI (24 * r + 4 * i + j)) = some (nI (sd A r i j)) := by
  have h6 := (hA.2.2.2.2.2.1 r hr).1
  exact aI_s hG (by decide) (by decide) (show 24 * r + 4 * i + j < 336 by omega) (M.2.2.2.2.2.2.2.1 r hr i hi j hj)
def bestI (n : Nat) : Int32 := nI n - 1
theorem bestI_lt {n c : Nat} (hn : n < 2 ^ 30) (hc : c < 2 ^ 30) : bestI n < nI c ↔ n ≤ c := by
  unfold bestI
  rw [Int32.lt_iff_toInt_lt, show (1 : Int32) = nI 1 from rfl, pk_sub_toInt hn (by decide), nI_toInt (by omega)]
  omega
theorem bestI_s (c : Nat) : nI c = bestI (c + 1) := by
  unfold bestI
  rw [show (1 : Int32) = nI 1 from rfl, pk_sub (by omega)]; simp
theorem act_L {A : SA} (hG : Gr h) (hA : OkA A) (M : MS h A) {b s m : Nat} (hb : b < 2) (hs : s < 7) (hm : m < 16) (k : Int32 → Option Int32) :
    ∀ (n f i : Nat), n + i = sc A (7 * b + s) → n < f → f_X10_actOf_L9 k h 230 (nI b) (nI s) (nI m) f (nI (actP (sd A (7 * b + s)) m i).2) (bestI (actP (sd A (7 * b + s)) m i).1) (nI i) = k (nI (actS A (7 * b + s) m))
  | 0, f, i, hn, hf => by
    obtain ⟨f, rfl⟩ : ∃ g, f = g + 1 := ⟨f - 1, by omega⟩
    have hr : 7 * b + s < 14 := by omega
    have h6 := (hA.2.2.2.2.2.1 _ hr).1
    rw [f_X10_actOf_L9, gR_g hG (by decide) (by decide) (show gr 230 6 = some 234 from rfl), bS, cl_mul2, nI_add, aI_s hG (by decide) (by decide) (show 7 * b + s < 14 from hr) (M.2.2.2.2.2.2.1 _ hr), bS, in_le (by omega) (by omega), if_pos (by omega), show i = sc A (7 * b + s) by omega]
    rfl
  | n + 1, f, i, hn, hf => by
    obtain ⟨f, rfl⟩ : ∃ g, f = g + 1 := ⟨f - 1, by omega⟩
    have hr : 7 * b + s < 14 := by omega
    have ok := hA.2.2.2.2.2.1 _ hr
    have h6 := ok.1
    have hi : i < sc A (7 * b + s) := by omega
    have d := ok.2 i hi
    have g0 := rule_g hG hA M hr hi (show 0 < 4 by decide)
    have g1 := rule_g hG hA M hr hi (show 1 < 4 by decide)
    have g2 := rule_g hG hA M hr hi (show 2 < 4 by decide)
    have g3 := rule_g hG hA M hr hi (show 3 < 4 by decide)
    have pl := actP_le (c := sd A (7 * b + s)) (m := m) i (fun q hq => ⟨(ok.2 q (by omega)).2.2.1, (ok.2 q (by omega)).2.2.2⟩)
    have ih := act_L hG hA M hb hs hm k n f (i + 1) (by omega) (by omega)
    rw [f_X10_actOf_L9, gR_g hG (by decide) (by decide) (show gr 230 6 = some 234 from rfl), bS, cl_mul2, nI_add, aI_s hG (by decide) (by decide) (show 7 * b + s < 14 from hr) (M.2.2.2.2.2.2.1 _ hr), bS, in_le (by omega) (by omega), if_neg (by omega), ruleAt_eq hG, bS, gR_g hG (by decide) (by decide) (show gr 230 7 = some 235 from rfl), bS, show 24 * (7 * b + s) + 4 * i = 24 * (7 * b + s) + 4 * i + 0 by omega, g0, bS, bS, cl_add, show 24 * (7 * b + s) + 4 * i + 0 + 1 = 24 * (7 * b + s) + 4 * i + 1 by omega, g1, bS, ofSpan_eq (by omega) (by omega) hm, bS, b2_it, cl_add]
    rw [actP] at ih
    by_cases c1 : spanB (sd A (7 * b + s) i 0) (sd A (7 * b + s) i 1) m = true
    · rw [if_pos c1, bS, cl_add, show 24 * (7 * b + s) + 4 * i + 0 + 2 = 24 * (7 * b + s) + 4 * i + 2 by omega, g2, bS]
      by_cases c2 : (actP (sd A (7 * b + s)) m i).1 ≤ sd A (7 * b + s) i 2
      · rw [if_pos ((bestI_lt (by omega) (by omega)).mpr c2), bS, g2, bS, bS, cl_add, show 24 * (7 * b + s) + 4 * i + 0 + 3 = 24 * (7 * b + s) + 4 * i + 3 by omega, g3, bS, bestI_s (sd A (7 * b + s) i 2)]
        rw [if_neg (by omega), if_pos c1] at ih
        exact ih
      · rw [if_neg (fun q => c2 ((bestI_lt (by omega) (by omega)).mp q))]
        rw [if_pos (by omega)] at ih
        rw [nI_1]
        exact ih
    · rw [if_neg c1]
      rw [if_neg c1, ite_self] at ih
      rw [nI_1]
      exact ih
theorem actOf_eq {A : SA} (hG : Gr h) (hA : OkA A) (M : MS h A) {b s m : Nat} (hb : b < 2) (hs : s < 7) (hm : m < 16) : f_X10_actOf h 230 (nI b) (nI s) (nI m) = some (nI (actS A (7 * b + s) m)) := by
  have h6 := (hA.2.2.2.2.2.1 (7 * b + s) (by omega)).1
  unfold f_X10_actOf
  rw [gK_g hG (by decide) (by decide)]
  exact act_L hG hA M hb hs hm (fun x => some x) (sc A (7 * b + s)) fuel 0 (by omega) (by unfold fuel; omega)
theorem thr_lt (c : Nat) : thr c < 2 ^ 31 := by
  unfold thr
  split
  · decide
  · split <;> decide
theorem goes_eq {A : SA} (hG : Gr h) (hA : OkA A) (M : MS h A) {s mix m : Nat} (hs : s < 7) (hm : m < 16) : f_X10_goes h 230 (nI s) (nI (bit mix s)) (nI m) = some (nI (goS A mix m s)) := by
  have hb := bit_lt mix s
  have hr : 7 * bit mix s + s < 14 := by omega
  have ha := actS_le hA (m := m) hr
  unfold f_X10_goes goS
  rw [gK_g hG (by decide) (by decide), actOf_eq hG hA M hb hs hm, bS, it_eq1 (by omega) (by decide)]
  by_cases c4 : actS A (7 * bit mix s + s) m = 4
  · rw [if_pos c4, if_pos c4]; rfl
  · rw [if_neg c4, if_neg c4]
    have hk : 4 * s + actS A (7 * bit mix s + s) m < 28 := by omega
    have ok := hA.2.2.2.1 _ hk
    have h6 := hA.2.2.1
    have et := M.2.2.2.1 _ hk
    have eo := M.2.2.2.2.1 _ hk
    rw [gR_g hG (by decide) (by decide) (show gr 230 3 = some 231 from rfl), bS, cl_mul2, nI_add]
    generalize 4 * s + actS A (7 * bit mix s + s) m = q at hk ok et eo ⊢
    rw [aI_s hG (by decide) (by decide) (show q < 28 from hk) et, bS, it_eq1 (thr_lt _) (by decide)]
    by_cases c0 : sp A q = 0
    · rw [if_pos (by rw [c0]; rfl), if_pos c0]; rfl
    · have eo := eo c0
      rw [if_neg (by unfold thr; rw [if_neg c0]; split <;> decide), if_neg c0, bS, aI_s hG (by decide) (by decide) (show q < 28 from hk) et, bS, it_eq1 (thr_lt _) (by decide), gR_g hG (by decide) (by decide) (show gr 230 4 = some 232 from rfl)]
      by_cases c1 : sp A q < 100
      · rw [if_neg (by unfold thr; rw [if_neg c0, if_pos c1]; decide), bS, aI_s hG (by decide) (by decide) (show q < 28 from hk) eo, bS, if_neg (by omega), show oth (sp A q) = sp A q - 1 from if_pos c1, cl_div (by omega) (by decide) (by decide)]
      · rw [if_pos (by unfold thr; rw [if_neg c0, if_neg c1]), bS, aI_s hG (by decide) (by decide) (show q < 28 from hk) eo, bS, if_pos (by omega), show oth (sp A q) = sp A q - 100 from if_neg c1, cl_add2, show 100 + (sp A q - 100) = sp A q by omega]
end

/-! ===== the reference: what it knows of mixtures, unlike switches, plans, rounds ===== -/
/-- what learning writes -/
def Ln (h h' : MH) : Prop := Only h h' (fun a => a = 230 ∨ a = 237 ∨ a = 238 ∨ a = 241) ∧ ∀ k, k ≠ 13 → k ≠ 14 → k ≠ 21 → mm_I h' 230 k = mm_I h 230 k
/-- what is written beside the state -/
def Lk (h h' : MH) : Prop := Only h h' (fun a => a = 230 ∨ a = 237 ∨ a = 238 ∨ a = 241 ∨ a = 242 ∨ a = 244 ∨ a = 245) ∧ ∀ k, k ≠ 13 → k ≠ 14 → k ≠ 21 → mm_I h' 230 k = mm_I h 230 k
theorem Ln.rf {h : MH} : Ln h h := ⟨Only.rf, fun _ _ _ _ => rfl⟩
theorem Ln.tr {h h1 h2 : MH} (a : Ln h h1) (b : Ln h1 h2) : Ln h h2 := ⟨a.1.tr b.1, fun k h1 h2 h3 => (b.2 k h1 h2 h3).trans (a.2 k h1 h2 h3)⟩
theorem Lk.rf {h : MH} : Lk h h := ⟨Only.rf, fun _ _ _ _ => rfl⟩
theorem Lk.tr {h h1 h2 : MH} (a : Lk h h1) (b : Lk h1 h2) : Lk h h2 := ⟨a.1.tr b.1, fun k h1 h2 h3 => (b.2 k h1 h2 h3).trans (a.2 k h1 h2 h3)⟩
theorem Wk.ln {h h' : MH} (w : Wk h h') : Ln h h' := ⟨w.1.mono (fun a q => by omega), fun k h1 h2 _ => w.2 k h1 h2⟩
theorem Ln.lk {h h' : MH} (w : Ln h h') : Lk h h' := ⟨w.1.mono (fun a q => by omega), w.2⟩
theorem Wk.lk {h h' : MH} (w : Wk h h') : Lk h h' := w.ln.lk
theorem Ln.si41 {h : MH} {k : Nat} {x : Int32} : Ln h (mm_si h 241 k x) := ⟨Only.si (by decide), fun j _ _ _ => by rw [si_o (by decide)]⟩
theorem Ln.si21 {h : MH} {x : Int32} : Ln h (mm_si h 230 21 x) := ⟨Only.si (by decide), fun j _ _ _ => by rw [si_o2 (by omega)]⟩
theorem Lk.sit {h : MH} {a k : Nat} {x : Int32} (ha : a = 242 ∨ a = 244 ∨ a = 245) : Lk h (mm_si h a k x) := ⟨Only.si (by omega), fun j _ _ _ => by rw [si_o (by omega)]⟩
theorem Lk.ms {h h' : MH} {A : SA} (w : Lk h h') (M : MS h A) : MS h' A := M.cong (fun k hk => w.2 k (by omega) (by omega) (by omega)) (fun a h1 h2 => w.1.2.2.2.2.2 a (by omega))
theorem Lk.mp {h h' : MH} {l : List Nat} (w : Lk h h') (M : MP h l) : MP h' l := by
  unfold MP at M ⊢; rw [w.2 24 (by decide) (by decide) (by decide), w.1.2.2.2.2.2 243 (by decide)]; exact M
theorem Lk.mt {h h' : MH} {t : List Nat × Int32} (w : Lk h h') (M : MT h t) : MT h' t := by
  unfold MT at M ⊢; rw [w.2 19 (by decide) (by decide) (by decide), w.2 20 (by decide) (by decide) (by decide), w.1.2.2.2.2.2 240 (by decide)]; exact M
theorem Lk.mr {h h' : MH} {z : Option RN} (w : Lk h h') (M : MR h z) : MR h' z := M.cong (fun k _ _ => w.2 k (by omega) (by omega) (by omega)) (fun x h1 h2 => w.1.2.2.2.2.2 x (by omega))
theorem Lk.mx {h h' : MH} {z : ZS} (w : Lk h h') (K : MK h' (zA z)) (M : MX h z) : MX h' z := ⟨w.ms M.1, K, w.mp M.2.2.1, w.mt M.2.2.2.1, w.mr M.2.2.2.2⟩
theorem Lk.mf {h h' : MH} (w : Lk h h') : Only h h' MF := w.1.mono (fun a q => by unfold MF; omega)
/-- all is known -/
def Kn (h : MH) (A : SA) : Prop := mm_I h 230 21 = 1 ∧ ∀ m, m ≤ allS A → mm_I h 241 m = b2 (goodS A m)
theorem Kn.mk {h : MH} {A : SA} (q : Kn h A) : MK h A := Or.inr q
theorem Kn.cong {h h' : MH} {A : SA} (e : mm_I h' 230 21 = mm_I h 230 21) (e2 : mm_I h' 241 = mm_I h 241) (q : Kn h A) : Kn h' A := by unfold Kn at q ⊢; rw [e, e2]; exact q
theorem MK.cong {h h' : MH} {A : SA} (e : mm_I h' 230 21 = mm_I h 230 21) (e2 : mm_I h' 241 = mm_I h 241) (q : MK h A) : MK h' A := by unfold MK at q ⊢; rw [e, e2]; exact q
theorem si_c {h : MH} {a k b : Nat} {x : Int32} (hb : b ≠ a) : mm_I (mm_si h a k x) b = mm_I h b := by funext j; rw [si_o hb]
section
variable {h : MH} {A : SA}
theorem learn_L (hA : OkA A) (k : MH → Option MH) :
    ∀ (n f : Nat) (h : MH) (m : Nat), n + m = allS A + 1 → n < f → Gr h → MS h A → (∀ j, j < m → mm_I h 241 j = b2 (goodS A j)) →
      ∃ h', f_X10_learn_L15 k 230 f h (nI m) = k h' ∧ Ln h h' ∧ mm_I h' 230 21 = mm_I h 230 21 ∧ ∀ j, j ≤ allS A → mm_I h' 241 j = b2 (goodS A j) := by
  have hl := all_lt hA
  have hp := all_pow hA
  have h10 := hA.2.2.2.2.2.2.1
  intro n
  induction n with
  | zero =>
    intro f h m hn hf hG M o
    obtain ⟨f, rfl⟩ : ∃ g, f = g + 1 := ⟨f - 1, by omega⟩
    refine ⟨h, ?_, Ln.rf, rfl, fun j hj => o j (by omega)⟩
    rw [f_X10_learn_L15, all_eq hG hA M, bS, in_lt (by omega) (by omega), if_pos (by omega)]
  | succ n ih =>
    intro f h m hn hf hG M o
    obtain ⟨f, rfl⟩ : ∃ g, f = g + 1 := ⟨f - 1, by omega⟩
    obtain ⟨h1, e1, w1⟩ := mWhy_eq hG hA M (show m < 2 ^ sn A by omega) (show 0 < 2 by decide)
    have G1 := w1.1.Gr hG
    have M1 := w1.ms M
    have e41 := w1.1.2.2.2.2.2 241 (by decide)
    have wl := why_le A m
    rw [f_X10_learn_L15, all_eq hG hA M, bS, in_lt (by omega) (by omega), if_neg (by omega), r_22 hG, bS, show (0 : Int32) = nI 0 from rfl, e1, bS, cl_add]
    have step : ∀ b : Bool, b = goodS A m → ∃ h', (sZ h1 241 (nI m) (b2 b)).bind (fun h43 => f_X10_learn_L15 k 230 f h43 (nI (m + 1))) = k h' ∧ Ln h h' ∧ mm_I h' 230 21 = mm_I h 230 21 ∧ ∀ j, j ≤ allS A → mm_I h' 241 j = b2 (goodS A j) := by
      intro b eb
      have w2 : Ln h (mm_si h1 241 m (b2 b)) := w1.ln.tr Ln.si41
      obtain ⟨h3, e3, w3, f3, o3⟩ := ih f (mm_si h1 241 m (b2 b)) (m + 1) (by omega) (by omega) G1.si (w2.lk.ms M) (fun j hj => by
        by_cases ej : j = m
        · subst ej; rw [si_s, eb]
        · rw [si_o2 ej, e41]; exact o j (by omega))
      refine ⟨h3, ?_, w2.tr w3, ?_, o3⟩
      · rw [sZ_g G1 (by decide) (by decide) (show m < 128 by omega) (b2_01 b), bS]; exact e3
      · rw [f3, si_o (by decide), w1.2 21 (by decide) (by decide)]
    by_cases c : whyS A m = sw A
    · have eg : true = goodS A m := by unfold goodS; simp [c]
      rw [if_pos c, if_pos rfl]
      exact step true eg
    · have eg : false = goodS A m := by unfold goodS; simp [c]
      rw [if_neg c, if_pos rfl, if_neg (nI_ne_m1 (by omega))]
      exact step false eg
theorem learn_eq (hG : Gr h) (hA : OkA A) (M : MS h A) (K : MK h A) : ∃ h', f_X10_learn h 230 = some h' ∧ Ln h h' ∧ Kn h' A := by
  have hl := all_lt hA
  unfold f_X10_learn
  rw [r_K hG, r_I hG, bS]
  rcases K with k0 | k1
  · obtain ⟨h1, e1, w1, f1, o1⟩ := learn_L hA (fun he50 => some he50) (allS A + 1) fuel (mm_si h 230 21 1) 0 (by omega) (by unfold fuel; omega) hG.si (Ln.si21.lk.ms M) (fun j hj => by omega)
    refine ⟨h1, ?_, Ln.si21.tr w1, by rw [f1, si_s], o1⟩
    rw [k0, if_pos rfl, r_Z1 hG, bS]
    exact e1
  · refine ⟨h, ?_, Ln.rf, k1⟩
    rw [k1.1, if_neg (by decide)]
/-- unlike switches -/
theorem ruleAt_0 {s : Nat} (hG : Gr h) : f_X10_ruleAt h 230 0 (nI s) 0 = some (nI (24 * s)) := by
  have : f_X10_ruleAt h 230 0 (nI s) 0 = some (nI (24 * (7 * 0 + s) + 4 * 0)) := ruleAt_eq (b := 0) (s := s) (i := 0) hG
  rw [show 24 * (7 * 0 + s) + 4 * 0 = 24 * s by omega] at this
  exact this
theorem ruleAt_1 {s : Nat} (hG : Gr h) : f_X10_ruleAt h 230 1 (nI s) 0 = some (nI (24 * (7 + s))) := by
  have : f_X10_ruleAt h 230 1 (nI s) 0 = some (nI (24 * (7 * 1 + s) + 4 * 0)) := ruleAt_eq (b := 1) (s := s) (i := 0) hG
  rw [show 24 * (7 * 1 + s) + 4 * 0 = 24 * (7 + s) by omega] at this
  exact this
theorem rule_x (hG : Gr h) (hA : OkA A) (M : MS h A) {r x : Nat} (hr : r < 14) (hx : x < 4 * sc A r) : aI h 235 (nI (24 * r + x)) = some (nI (sd A r (x / 4) (x % 4))) := by
  have := rule_g hG hA M hr (show x / 4 < sc A r by omega) (show x % 4 < 4 by omega)
  rw [show 24 * r + 4 * (x / 4) + x % 4 = 24 * r + x by omega] at this
  exact this
def neP (A : SA) (s x : Nat) : Bool := !(sd A s (x / 4) (x % 4) == sd A (7 + s) (x / 4) (x % 4))
theorem same_any {s : Nat} (A : SA) : sameS A s = (sc A s == sc A (7 + s) && !(anyF (neP A s) (4 * sc A s) 0)) := by
  apply Bool.eq_iff_iff.mpr
  rw [sameS_iff, Bool.and_eq_true, beq_iff_eq]
  have : (!(anyF (neP A s) (4 * sc A s) 0)) = true ↔ ∀ k, k < sc A s → ∀ j, j < 4 → sd A s k j = sd A (7 + s) k j := by
    rw [Bool.not_eq_true', ← Bool.not_eq_true, anyF_iff]
    constructor
    · intro q k hk j hj
      apply Decidable.byContradiction
      intro c
      apply q
      refine ⟨4 * k + j, by omega, by omega, ?_⟩
      unfold neP
      rw [show (4 * k + j) / 4 = k by omega, show (4 * k + j) % 4 = j by omega]
      simpa using c
    · rintro q ⟨x, -, hx, hp⟩
      unfold neP at hp
      have := q (x / 4) (by omega) (x % 4) (by omega)
      simp [this] at hp
  rw [this]
theorem ul_L39 (hG : Gr h) (hA : OkA A) (M : MS h A) {s : Nat} (hs : s < 7) (hc : sc A s = sc A (7 + s)) {x1 : Int32} (k : Int32 → Option Int32) :
    ∀ (n f x : Nat) (b : Bool), n + x = 4 * sc A s → n < f → f_X10_unlike_L39 k h 230 x1 (nI s) f (b2 b) (nI x) = k (b2 (b && !(anyF (neP A s) n x)))
  | 0, f, x, b, hn, hf => by
    have h6 := (hA.2.2.2.2.2.1 s (by omega)).1
    obtain ⟨f, rfl⟩ : ∃ g, f = g + 1 := ⟨f - 1, by omega⟩
    rw [f_X10_unlike_L39, r_6 hG, bS, aI_s hG (by decide) (by decide) (show s < 14 by omega) (M.2.2.2.2.2.2.1 s (by omega)), bS, cl_mul2, in_le (by omega) (by omega), if_pos (by omega)]
    simp [anyF]
  | n + 1, f, x, b, hn, hf => by
    have h6 := (hA.2.2.2.2.2.1 s (by omega)).1
    obtain ⟨f, rfl⟩ : ∃ g, f = g + 1 := ⟨f - 1, by omega⟩
    have ih := fun b => ul_L39 hG hA M hs hc (x1 := x1) k n f (x + 1) b (by omega) (by omega)
    have b1 := sd_lt hA (r := s) (i := x / 4) (j := x % 4) (by omega) (by omega) (by omega)
    have b3 := sd_lt hA (r := 7 + s) (i := x / 4) (j := x % 4) (by omega) (by omega) (by omega)
    rw [f_X10_unlike_L39, r_6 hG, bS, aI_s hG (by decide) (by decide) (show s < 14 by omega) (M.2.2.2.2.2.2.1 s (by omega)), bS, cl_mul2, in_le (by omega) (by omega), if_neg (by omega), b2_it]
    cases b with
    | false => rw [if_neg (by decide)]; simp
    | true =>
      rw [if_pos rfl, r_7 hG, bS, ruleAt_0 hG, bS, nI_add, rule_x hG hA M (by omega) (by omega), bS, bS, ruleAt_1 hG, bS, nI_add, rule_x hG hA M (by omega) (by omega), bS, in_eq b1 b3, cl_add, anyF]
      by_cases c : sd A s (x / 4) (x % 4) = sd A (7 + s) (x / 4) (x % 4)
      · rw [if_pos c]
        have hne : neP A s x = false := by unfold neP; simp [c]
        have := ih true
        simpa [b2, hne] using this
      · rw [if_neg c]
        have hne : neP A s x = true := by unfold neP; simpa using c
        have := ih false
        simpa [b2, hne] using this
theorem ul_L39_0 (hG : Gr h) (hA : OkA A) (M : MS h A) {s : Nat} (hs : s < 7) {x1 : Int32} (k : Int32 → Option Int32) {f : Nat} (hf : 0 < f) : f_X10_unlike_L39 k h 230 x1 (nI s) f 0 0 = k 0 := by
  obtain ⟨f, rfl⟩ : ∃ g, f = g + 1 := ⟨f - 1, by omega⟩
  rw [f_X10_unlike_L39, r_6 hG, bS, aI_s hG (by decide) (by decide) (show s < 14 by omega) (M.2.2.2.2.2.2.1 s (by omega)), bS]
  split
  · rfl
  · rw [if_pos rfl]
theorem nx_or0 (a : Nat) : nI a ||| (0 : Int32) = nI a := by
  have := nx_or a 0
  rw [Nat.or_zero] at this
  exact this
theorem ul_L4 (hG : Gr h) (hA : OkA A) (M : MS h A) (k : Int32 → Option Int32) :
    ∀ (n f s : Nat), n + s = sn A → n < f → f_X10_unlike_L4 k h 230 f (nI (unlS A s)) (nI s) = k (nI (unlikeS A))
  | 0, f, s, hn, hf => by
    have h7 := hA.2.1
    obtain ⟨f, rfl⟩ : ∃ g, f = g + 1 := ⟨f - 1, by omega⟩
    rw [f_X10_unlike_L4, r_I hG, bS, M.1, in_le (by omega) (by omega), if_pos (by omega), show s = sn A by omega]
    rfl
  | n + 1, f, s, hn, hf => by
    have h7 := hA.2.1
    have h6 := (hA.2.2.2.2.2.1 s (by omega)).1
    have h6' := (hA.2.2.2.2.2.1 (7 + s) (by omega)).1
    obtain ⟨f, rfl⟩ : ∃ g, f = g + 1 := ⟨f - 1, by omega⟩
    have ih := ul_L4 hG hA M k n f (s + 1) (by omega) (by omega)
    have fin : ∀ b : Bool, b = sameS A s → (if b2 b = 0 then f_X10_unlike_L4 k h 230 f (nI (unlS A s) ||| ((1 : Int32) <<< (nI s &&& 31))) (nI s + 1) else f_X10_unlike_L4 k h 230 f (nI (unlS A s) ||| (0 : Int32)) (nI s + 1)) = k (nI (unlikeS A)) := by
      intro b eb
      rw [b2_it, nx_shl (by omega), nx_or, nx_or0, cl_add]
      rw [unlS, ← eb] at ih
      cases b with
      | true => rw [if_pos rfl]; rw [if_pos rfl] at ih; exact ih
      | false => rw [if_neg (by decide)]; rw [if_neg (by decide)] at ih; exact ih
    rw [f_X10_unlike_L4, r_I hG, bS, M.1, in_le (by omega) (by omega), if_neg (by omega), r_6 hG, bS, aI_s hG (by decide) (by decide) (show s < 14 by omega) (M.2.2.2.2.2.2.1 s (by omega)), bS, bS, cl_add2, aI_s hG (by decide) (by decide) (show 7 + s < 14 by omega) (M.2.2.2.2.2.2.1 (7 + s) (by omega)), bS, in_eq (by omega) (by omega)]
    unfold f_X10_unlike_j35
    by_cases c : sc A s = sc A (7 + s)
    · rw [if_pos c]
      refine (ul_L39 hG hA M (by omega) c _ (4 * sc A s) fuel 0 true (by omega) (by unfold fuel; omega)).trans ?_
      exact fin _ (by rw [same_any]; simp [c])
    · rw [if_neg c, ul_L39_0 hG hA M (by omega) _ (by decide)]
      exact fin false (by rw [same_any]; simp [c])
theorem unlikeM_eq (hG : Gr h) (hA : OkA A) (M : MS h A) : f_X10_unlike h 230 = some (nI (unlikeS A)) := by
  have h7 := hA.2.1
  unfold f_X10_unlike
  rw [r_K hG]
  exact ul_L4 hG hA M (fun x => some x) (sn A) fuel 0 (by omega) (by unfold fuel; omega)
/-- plans -/
theorem pl_L {l : List Nat} (hG : Gr h) (P : MP h l) {n : Nat} (hn : n ≤ l.length) (k : Int32 → Option Int32) :
    ∀ (m f i : Nat), m + i = n → m < f → f_X10_planned_L4 k h 230 (nI n) f (nI (unS (l.take i))) (nI i) = k (nI (unS (l.take n)))
  | 0, f, i, hm, hf => by
    have := P.2.1
    obtain ⟨f, rfl⟩ : ∃ g, f = g + 1 := ⟨f - 1, by omega⟩
    rw [f_X10_planned_L4, in_le (by omega) (by omega), if_pos (by omega), show i = n by omega]
  | m + 1, f, i, hm, hf => by
    have := P.2.1
    obtain ⟨f, rfl⟩ : ∃ g, f = g + 1 := ⟨f - 1, by omega⟩
    have hi : i < l.length := by omega
    rw [f_X10_planned_L4, in_le (by omega) (by omega), if_neg (by omega), r_25 hG, bS, aI_s hG (by decide) (by decide) (show i < 7 by omega) (P.2.2 i _ (getD_some hi)), bS, nx_or, cl_add, ← un_take hi]
    exact pl_L hG P hn k m f (i + 1) (by omega) (by omega)
theorem planned_eq {l : List Nat} (hG : Gr h) (P : MP h l) {n : Nat} (hn : n ≤ l.length) : f_X10_planned h 230 (nI n) = some (nI (unS (l.take n))) := by
  have := P.2.1
  unfold f_X10_planned
  rw [r_K hG]
  exact pl_L hG P hn (fun x => some x) n fuel 0 (by omega) (by unfold fuel; omega)
/-- the least mixture of a round that is not good -/
def agP (A : SA) (had set m : Nat) : Bool := ((m &&& had) == had) && (wi m (had ||| set) && !(goodS A m))
theorem ag_L (hG : Gr h) (hA : OkA A) (M : MS h A) (K : Kn h A) {had set : Nat} (ha : had < 128) (hs : set < 128) (k : Option (Int32 × MH)) :
    ∀ (n f m : Nat), n + m = allS A + 1 → n < f → f_X10_against_L6 k h 230 (nI had) (nI set) f (nI m) = (if lst (agP A had set) n m = allS A + 1 then k else some (nI (lst (agP A had set) n m), h))
  | 0, f, m, hn, hf => by
    have hl := all_lt hA
    obtain ⟨f, rfl⟩ : ∃ g, f = g + 1 := ⟨f - 1, by omega⟩
    rw [f_X10_against_L6, all_eq hG hA M, bS, in_lt (by omega) (by omega), if_pos (by omega), show lst (agP A had set) 0 m = allS A + 1 by unfold lst; omega, if_pos rfl]
  | n + 1, f, m, hn, hf => by
    have hl := all_lt hA
    obtain ⟨f, rfl⟩ : ∃ g, f = g + 1 := ⟨f - 1, by omega⟩
    have ih := ag_L hG hA M K ha hs k n f (m + 1) (by omega) (by omega)
    have b1 : m &&& had < 128 := Nat.lt_of_le_of_lt Nat.and_le_right ha
    have skip : agP A had set m = false → f_X10_against_L6 k h 230 (nI had) (nI set) f (nI (m + 1)) = (if lst (agP A had set) (n + 1) m = allS A + 1 then k else some (nI (lst (agP A had set) (n + 1) m), h)) := by
      intro e
      rw [ih, show lst (agP A had set) (n + 1) m = lst (agP A had set) n (m + 1) by rw [lst, e]; rfl]
    rw [f_X10_against_L6, all_eq hG hA M, bS, in_lt (by omega) (by omega), if_neg (by omega), nx_and, in_eq (by omega) (by omega), nx_or, cl_add]
    by_cases c1 : m &&& had = had
    · rw [if_pos c1]
      by_cases c2 : wi m (had ||| set) = true
      · rw [if_pos ((wi_eq (by omega) (or_lt ha hs)).mpr c2), r_22 hG, bS, aZ_g hG (by decide) (by decide) (show m < 128 by omega), K.2 m (by omega), bS, b2_it]
        by_cases c3 : goodS A m = true
        · rw [if_pos c3]
          exact skip (by unfold agP; simp [c3])
        · have e : agP A had set m = true := by unfold agP; simp [c1, c2, c3]
          rw [if_neg c3, show lst (agP A had set) (n + 1) m = m by rw [lst, e]; rfl, if_neg (by omega)]
      · rw [if_neg (fun z => c2 ((wi_eq (by omega) (or_lt ha hs)).mp z))]
        exact skip (by unfold agP; simp [c2])
    · rw [if_neg c1]
      exact skip (by unfold agP; simp [c1])
theorem bits_split {m had set : Nat} (h1 : m &&& had = had) (h2 : wi m (had ||| set) = true) : m = had ||| (m &&& set) := by
  unfold wi at h2
  rw [beq_iff_eq, Nat.and_or_distrib_left, h1] at h2
  exact h2.symm
theorem wi_and {m set : Nat} : wi (m &&& set) set = true := by
  unfold wi
  rw [beq_iff_eq, Nat.and_assoc, Nat.and_self]
theorem apart_sub {had set y : Nat} (hd : had &&& set = 0) (hy : wi y set = true) : had &&& y = 0 := by
  unfold wi at hy
  rw [beq_iff_eq] at hy
  rw [← hy, Nat.and_comm y set, ← Nat.and_assoc, hd, Nat.zero_and]
theorem agP_or {A : SA} {had set y : Nat} (hy : wi y set = true) : agP A had set (had ||| y) = !(goodS A (had ||| y)) := by
  have e1 : (had ||| y) &&& had = had := by
    rw [Nat.and_or_distrib_right, Nat.and_self]
    apply Nat.eq_of_testBit_eq
    intro i
    simp only [Nat.testBit_or, Nat.testBit_and]
    cases had.testBit i <;> cases y.testBit i <;> rfl
  have e2 : wi (had ||| y) (had ||| set) = true := by
    unfold wi at hy ⊢
    rw [beq_iff_eq] at hy ⊢
    apply Nat.eq_of_testBit_eq
    intro i
    have := congrArg (fun q => Nat.testBit q i) hy
    simp only [Nat.testBit_or, Nat.testBit_and] at this ⊢
    revert this
    cases had.testBit i <;> cases y.testBit i <;> cases set.testBit i <;> simp
  unfold agP
  rw [e1, e2]
  simp
theorem agR_eq {had set : Nat} (hA : OkA A) (ha : had < 128) (hs : set < 128) (wa : wi had (unlikeS A) = true) (ws : wi set (unlikeS A) = true) (hd : had &&& set = 0) :
    (if lst (agP A had set) (allS A + 1) 0 = allS A + 1 then (-1 : Int32) else nI (lst (agP A had set) (allS A + 1) 0)) = agI A had set := by
  have hu := unlike_all (A := A)
  have hl := all_lt hA
  have le1 := (lst_le (agP A had set) (allS A + 1) 0).2
  have le2 := (lst_le (ntP A had set) (set + 1) 0).2
  unfold agI
  have eA : agS A had set = lst (ntP A had set) (set + 1) 0 := rfl
  by_cases c : agS A had set = set + 1
  · have c' : lst (agP A had set) (allS A + 1) 0 = allS A + 1 := by
      apply Decidable.byContradiction
      intro z
      have hy := lst_yes (p := agP A had set) (allS A + 1) 0 (by omega)
      generalize lst (agP A had set) (allS A + 1) 0 = m at hy
      unfold agP at hy
      simp only [Bool.and_eq_true, beq_iff_eq] at hy
      have es := bits_split hy.1 hy.2.1
      have hn := lst_no (p := ntP A had set) (set + 1) 0 (m &&& set) (by omega) (by rw [← eA, c]; have : m &&& set ≤ set := Nat.and_le_right; omega)
      unfold ntP at hn
      rw [wi_and, ← es, hy.2.2] at hn
      cases hn
    rw [if_pos c', if_pos c]
  · have hy := lst_yes (p := ntP A had set) (set + 1) 0 (by omega)
    rw [← eA] at hy
    have hlt : agS A had set < set + 1 := by omega
    generalize hq : agS A had set = y at hy c hlt
    unfold ntP at hy
    simp only [Bool.and_eq_true] at hy
    have wy : wi y (unlikeS A) = true := by
      have h1 := hy.1
      unfold wi at h1 ws ⊢
      rw [beq_iff_eq] at h1 ws ⊢
      rw [← h1, Nat.and_assoc, ws]
    have hm : had ||| y ≤ allS A := Nat.le_trans (wi_le (wi_or wa wy)) hu
    have hP : agP A had set (had ||| y) = true := by rw [agP_or hy.1]; exact hy.2
    have hd1 := or_add ha (show y < 128 by omega) (apart_sub hd hy.1)
    have lem : lst (agP A had set) (allS A + 1) 0 = had ||| y := by
      have h1 : ¬ had ||| y < lst (agP A had set) (allS A + 1) 0 := fun z => by
        have := lst_no (p := agP A had set) (allS A + 1) 0 (had ||| y) (by omega) z
        rw [hP] at this; cases this
      apply Decidable.byContradiction
      intro z
      have h2 : lst (agP A had set) (allS A + 1) 0 < had ||| y := by omega
      have hy2 := lst_yes (p := agP A had set) (allS A + 1) 0 (by omega)
      generalize lst (agP A had set) (allS A + 1) 0 = m at hy2 h2
      unfold agP at hy2
      simp only [Bool.and_eq_true, beq_iff_eq] at hy2
      have es := bits_split hy2.1 hy2.2.1
      have hms : m &&& set ≤ set := Nat.and_le_right
      have hd2 := or_add ha (show m &&& set < 128 by omega) (apart_sub hd wi_and)
      have hn := lst_no (p := ntP A had set) (set + 1) 0 (m &&& set) (by omega) (by rw [← eA, hq]; omega)
      unfold ntP at hn
      rw [wi_and, ← es, hy2.2.2] at hn
      cases hn
    rw [lem, if_neg (by omega), if_neg c]
theorem against_eq {had set : Nat} (hG : Gr h) (hA : OkA A) (M : MS h A) (K : MK h A) (ha : had < 128) (hs : set < 128) (wa : wi had (unlikeS A) = true) (ws : wi set (unlikeS A) = true) (hd : had &&& set = 0) :
    ∃ h', f_X10_against h 230 (nI had) (nI set) = some (agI A had set, h') ∧ Ln h h' ∧ Kn h' A := by
  have hl := all_lt hA
  obtain ⟨h1, e1, w1, K1⟩ := learn_eq hG hA M K
  have G1 := w1.1.Gr hG
  refine ⟨h1, ?_, w1, K1⟩
  unfold f_X10_against
  rw [r_K hG, e1, bS]
  refine (ag_L G1 hA (w1.lk.ms M) K1 ha hs _ (allS A + 1) fuel 0 (by omega) (by unfold fuel; omega)).trans ?_
  rw [← agR_eq hA ha hs wa ws hd]
  split <;> rfl
end

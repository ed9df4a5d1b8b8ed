/-! ===== unlike switches; good mixtures ===== -/
def wi (x u : Nat) : Bool := (x &&& u) == x
theorem wi_eq {x u : Nat} (hx : x < 128) (hu : u < 128) : (nI x &&& (nI u ^^^ (-1 : Int32)) = 0) ↔ wi x u = true := by
  have h : ∀ x, x < 128 → ∀ u, u < 128 → ((nI x &&& (nI u ^^^ (-1 : Int32)) = 0) ↔ wi x u = true) := by decide +kernel
  exact h x hx u hu
theorem isWithin_eq {h : MH} {x u : Nat} (hx : x < 128) (hu : u < 128) : f_X9_isWithin h (nI x) (nI u) = some (b2 (wi x u)) := by
  unfold f_X9_isWithin b2
  by_cases c : wi x u = true
  · rw [if_pos ((wi_eq hx hu).mpr c), if_pos c]
  · rw [if_neg (fun z => c ((wi_eq hx hu).mp z)), if_neg c]
def sfrom (A : SA) (r q : Nat) : Nat → Nat → Bool
  | 0, _ => true
  | n + 1, i => (sd A r i 0 == sd A q i 0 && (sd A r i 1 == sd A q i 1 && (sd A r i 2 == sd A q i 2 && sd A r i 3 == sd A q i 3))) && sfrom A r q n (i + 1)
theorem sfrom_iff (A : SA) (r q : Nat) : ∀ n i, sfrom A r q n i = true ↔ ∀ k, i ≤ k → k < i + n → ∀ j, j < 4 → sd A r k j = sd A q k j
  | 0, i => by simp [sfrom]; intro k h1 h2; omega
  | n + 1, i => by
    rw [sfrom, Bool.and_eq_true, sfrom_iff A r q n (i + 1)]
    simp only [Bool.and_eq_true, beq_iff_eq]
    constructor
    · rintro ⟨⟨a, b, c, d⟩, e⟩ k h1 h2 j hj
      by_cases ek : k = i
      · subst ek
        rcases (show j = 0 ∨ j = 1 ∨ j = 2 ∨ j = 3 by omega) with rfl | rfl | rfl | rfl <;> assumption
      · exact e k (by omega) (by omega) j hj
    · intro e
      exact ⟨⟨e i (by omega) (by omega) 0 (by omega), e i (by omega) (by omega) 1 (by omega), e i (by omega) (by omega) 2 (by omega), e i (by omega) (by omega) 3 (by omega)⟩, fun k h1 h2 j hj => e k (by omega) (by omega) j hj⟩
theorem sameS_iff (A : SA) (s : Nat) : sameS A s = true ↔ sc A s = sc A (7 + s) ∧ ∀ k, k < sc A s → ∀ j, j < 4 → sd A s k j = sd A (7 + s) k j := by
  unfold sameS
  simp only [Bool.and_eq_true, beq_iff_eq, List.all_eq_true, List.mem_range]
theorem sameS_eq (A : SA) (s : Nat) : sameS A s = (sc A s == sc A (7 + s) && sfrom A s (7 + s) (sc A s) 0) := by
  apply Bool.eq_iff_iff.mpr
  rw [sameS_iff, Bool.and_eq_true, sfrom_iff, beq_iff_eq]
  constructor
  · rintro ⟨a, b⟩; exact ⟨a, fun k _ h2 j hj => b k (by omega) j hj⟩
  · rintro ⟨a, b⟩; exact ⟨a, fun k h2 j hj => b k (by omega) (by omega) j hj⟩
theorem rowAt {h : MH} {A : SA} (hG : Gr h) (hA : OkA A) (R : RX h A) {r i j : Nat} (hr : r < 14) (hi : i < sc A r) (hj : j < 4) : gR h (6 + 6 * r) 5 j = some (6 + 6 * r + 1 + j) ∧ aI h (6 + 6 * r + 1 + j) (nI i) = some (nI (sd A r i j)) := by
  have h6 := (hA.2.2.2.2.2.1 r hr).1
  refine ⟨gR_g hG (by omega) (gk_row hr) (gr_row hr (by omega)), ?_⟩
  rw [aI_g hG (by omega) (by rw [show 6 + 6 * r + 1 + j = 6 + 6 * r + (1 + j) by omega]; exact gk_rowa hr (by omega) (by omega)) (by rw [show 6 + 6 * r + 1 + j = 6 + 6 * r + (1 + j) by omega, gl_rowa hr (by omega) (by omega)]; omega), (R.2.1 r hr).2.1 i hi j hj]
theorem rowSz {h : MH} {A : SA} (hG : Gr h) (R : RX h A) {r : Nat} (hr : r < 14) : gI h (6 + 6 * r) 5 5 = some (nI (sc A r)) := by rw [gI_g hG (by omega) (gk_row hr), (R.2.1 r hr).1]
theorem sd_lt {A : SA} (hA : OkA A) {r i j : Nat} (hr : r < 14) (hi : i < sc A r) (hj : j < 4) : sd A r i j < 2 ^ 31 := by
  have h := (hA.2.2.2.2.2.1 r hr).2 i hi
  rcases (show j = 0 ∨ j = 1 ∨ j = 2 ∨ j = 3 by omega) with rfl | rfl | rfl | rfl <;> omega
theorem rowLike_L {h : MH} {A : SA} (hG : Gr h) (hA : OkA A) (R : RX h A) {r q : Nat} (hr : r < 14) (hq : q < 14) (hc : sc A r = sc A q) :
    ∀ (n f i : Nat), n + i = sc A r → n < f → f_X5_isLike_L15 (some 1) h (6 + 6 * r) (6 + 6 * q) f (nI i) = some (b2 (sfrom A r q n i))
  | 0, f, i, hn, hf => by
    obtain ⟨f, rfl⟩ : ∃ g, f = g + 1 := ⟨f - 1, by omega⟩
    have h6 := (hA.2.2.2.2.2.1 r hr).1
    rw [f_X5_isLike_L15, rowSz hG R hr, bS, in_le (by omega) (by omega), if_pos (by omega)]; rfl
  | n + 1, f, i, hn, hf => by
    obtain ⟨f, rfl⟩ : ∃ g, f = g + 1 := ⟨f - 1, by omega⟩
    have h6 := (hA.2.2.2.2.2.1 r hr).1
    have hi : i < sc A r := by omega
    have hiq : i < sc A q := by omega
    have a0 := rowAt hG hA R hr hi (show 0 < 4 by decide)
    have a1 := rowAt hG hA R hr hi (show 1 < 4 by decide)
    have a2 := rowAt hG hA R hr hi (show 2 < 4 by decide)
    have a3 := rowAt hG hA R hr hi (show 3 < 4 by decide)
    have c0 := rowAt hG hA R hq hiq (show 0 < 4 by decide)
    have c1 := rowAt hG hA R hq hiq (show 1 < 4 by decide)
    have c2 := rowAt hG hA R hq hiq (show 2 < 4 by decide)
    have c3 := rowAt hG hA R hq hiq (show 3 < 4 by decide)
    rw [f_X5_isLike_L15, rowSz hG R hr, bS, in_le (by omega) (by omega), if_neg (by omega), a0.1, bS, a0.2, bS, c0.1, bS, c0.2, bS, in_eq (sd_lt hA hr hi (by decide)) (sd_lt hA hq hiq (by decide)), sfrom]
    by_cases e0 : sd A r i 0 = sd A q i 0
    · rw [if_pos e0, a1.1, bS, a1.2, bS, c1.1, bS, c1.2, bS, in_eq (sd_lt hA hr hi (by decide)) (sd_lt hA hq hiq (by decide))]
      by_cases e1 : sd A r i 1 = sd A q i 1
      · rw [if_pos e1, a2.1, bS, a2.2, bS, c2.1, bS, c2.2, bS, in_eq (sd_lt hA hr hi (by decide)) (sd_lt hA hq hiq (by decide))]
        by_cases e2 : sd A r i 2 = sd A q i 2
        · rw [if_pos e2, a3.1, bS, a3.2, bS, c3.1, bS, c3.2, bS, in_eq (sd_lt hA hr hi (by decide)) (sd_lt hA hq hiq (by decide))]
          by_cases e3 : sd A r i 3 = sd A q i 3
          · rw [if_pos e3, cl_add, rowLike_L hG hA R hr hq hc n f (i + 1) (by omega) (by omega)]
            simp [e0, e1, e2, e3]
          · rw [if_neg e3]; simp [e3, b2]
        · rw [if_neg e2]; simp [e2, b2]
      · rw [if_neg e1]; simp [e1, b2]
    · rw [if_neg e0]; simp [e0, b2]
theorem rowLike_eq {h : MH} {A : SA} (hG : Gr h) (hA : OkA A) (R : RX h A) {s : Nat} (hs : s < 7) : f_X5_isLike h (6 + 6 * s) (6 + 6 * (7 + s)) = some (b2 (sameS A s)) := by
  have h1 := (hA.2.2.2.2.2.1 s (by omega)).1
  have h2 := (hA.2.2.2.2.2.1 (7 + s) (by omega)).1
  unfold f_X5_isLike
  rw [gK_g hG (by omega) (gk_row (by omega)), rowSz hG R (by omega), bS, rowSz hG R (by omega), bS, in_eq (by omega) (by omega), sameS_eq]
  by_cases c : sc A s = sc A (7 + s)
  · rw [if_pos c, show (0 : Int32) = nI 0 from rfl, rowLike_L hG hA R (by omega) (by omega) c (sc A s) fuel 0 (by omega) (by unfold fuel; omega)]
    simp [c]
  · rw [if_neg c]; simp [c, b2]
theorem unl_lt (A : SA) : ∀ s, unlS A s < 2 ^ s
  | 0 => by simp [unlS]
  | s + 1 => by
    have ih := unl_lt A s
    have h2 : 2 ^ s < 2 ^ (s + 1) := Nat.pow_lt_pow_right (by decide) (by omega)
    unfold unlS
    split
    · omega
    · exact Nat.or_lt_two_pow (by omega) h2
theorem unlike_lt {A : SA} (hA : OkA A) : unlikeS A < 128 := by
  have h := unl_lt A (sn A)
  have : 2 ^ sn A ≤ 2 ^ 7 := Nat.pow_le_pow_right (by decide) hA.2.1
  unfold unlikeS; omega
theorem unlike_all {A : SA} : unlikeS A ≤ allS A := by
  have h := unl_lt A (sn A)
  unfold unlikeS allS; omega
theorem unlike_L {h : MH} {A : SA} (hG : Gr h) (hA : OkA A) (R : RX h A) (k : Int32 → Option Int32) :
    ∀ (n f s : Nat), n + s = sn A → n < f → f_X1_unlike_L4 k h 1 f (nI (unlS A s)) (nI s) = k (nI (unlikeS A))
  | 0, f, s, hn, hf => by
    obtain ⟨f, rfl⟩ : ∃ g, f = g + 1 := ⟨f - 1, by omega⟩
    have h7 := hA.2.1
    rw [f_X1_unlike_L4, gI_g hG (by decide) (by decide), bS, R.1.1, in_le (by omega) (by omega), if_pos (by omega), unlikeS, show sn A = s by omega]
  | n + 1, f, s, hn, hf => by
    obtain ⟨f, rfl⟩ : ∃ g, f = g + 1 := ⟨f - 1, by omega⟩
    have h7 := hA.2.1
    have ih := unlike_L hG hA R k n f (s + 1) (by omega) (by omega)
    rw [f_X1_unlike_L4, gI_g hG (by decide) (by decide), bS, R.1.1, in_le (by omega) (by omega), if_neg (by omega), gR_g hG (by decide) (by decide) (show gr 1 2 = some 4 from rfl), bS, aR_g hG (by decide) (by decide) (show s < 14 by omega) (hG.2.2.2 4 _ _ (by decide) (gr_rows (by omega))), bS, bS, cl_add2, aR_g hG (by decide) (by decide) (show 7 + s < 14 by omega) (hG.2.2.2 4 _ _ (by decide) (gr_rows (by omega))), bS, rowLike_eq hG hA R (by omega), bS, b2_it, cl_add, nx_shl (by omega), nx_or]
    rw [unlS] at ih
    split
    · rename_i c; rw [if_pos c] at ih; exact ih
    · rename_i c; rw [if_neg c] at ih; exact ih
theorem unlikeX_eq {h : MH} {A : SA} (hG : Gr h) (hA : OkA A) (R : RX h A) : f_X1_unlike h 1 = some (nI (unlikeS A)) := by
  unfold f_X1_unlike
  have h7 := hA.2.1
  rw [gK_g hG (by decide) (by decide)]
  exact unlike_L hG hA R (fun x1e45 => some x1e45) (sn A) fuel 0 (by omega) (by unfold fuel; omega)
/-- the good mixtures, as the class strikes them -/
def accM (A : SA) (i y : Nat) : Nat → Bool
  | 0 => true
  | m + 1 => accM A i y m && !(badP A i y m)
def accI (A : SA) (y : Nat) : Nat → Bool
  | 0 => true
  | i + 1 => accI A y i && (!(keptS A i) || accM A i y 16)
theorem accM_iff (A : SA) (i y : Nat) : ∀ n, accM A i y n = true ↔ ∀ m, m < n → badP A i y m = false
  | 0 => by simp [accM]
  | n + 1 => by
    rw [accM, Bool.and_eq_true, accM_iff A i y n]
    constructor
    · rintro ⟨a, b⟩ m hm
      by_cases e : m = n
      · subst e; simpa using b
      · exact a m (by omega)
    · intro a; exact ⟨fun m hm => a m (by omega), by simpa using a n (by omega)⟩
theorem bad16_iff (A : SA) (i y : Nat) : badS A i y = 16 ↔ ∀ m, m < 16 → badP A i y m = false := by
  rw [badS_def]
  constructor
  · intro h m hm; exact lst_no 16 0 m (by omega) (by omega)
  · intro h
    have h1 := (lst_le (badP A i y) 16 0).2
    by_cases c : lst (badP A i y) 16 0 < 16
    · have h2 := lst_yes 16 0 (p := badP A i y) (by omega)
      rw [h _ c] at h2; cases h2
    · omega
theorem accI_iff (A : SA) (y : Nat) : ∀ n, accI A y n = true ↔ ∀ i, i < n → keptS A i = true → badS A i y = 16
  | 0 => by simp [accI]
  | n + 1 => by
    rw [accI, Bool.and_eq_true, accI_iff A y n]
    constructor
    · rintro ⟨a, b⟩ i hi hk
      by_cases e : i = n
      · subst e
        rw [hk] at b
        rw [bad16_iff]
        exact (accM_iff A i y 16).mp (by simpa using b)
      · exact a i (by omega) hk
    · intro a
      refine ⟨fun i hi hk => a i (by omega) hk, ?_⟩
      cases hk : keptS A n with
      | false => rfl
      | true =>
        have := a n (by omega) hk
        rw [bad16_iff] at this
        simp [(accM_iff A n y 16).mpr this]
theorem goodS_iff (A : SA) (y : Nat) : goodS A y = true ↔ ∀ i, i < sw A → keptS A i = true → badS A i y = 16 := by
  unfold goodS whyS
  rw [beq_iff_eq]
  constructor
  · intro h i hi hk
    have := lst_no (p := fun i => keptS A i && !(badS A i y == 16)) (sw A) 0 i (by omega) (by omega)
    simpa [hk] using this
  · intro h
    have h1 := (lst_le (fun i => keptS A i && !(badS A i y == 16)) (sw A) 0).2
    by_cases c : lst (fun i => keptS A i && !(badS A i y == 16)) (sw A) 0 < sw A
    · have h2 := lst_yes (sw A) 0 (p := fun i => keptS A i && !(badS A i y == 16)) (by omega)
      simp only [Bool.and_eq_true, Bool.not_eq_true', beq_eq_false_iff_ne] at h2
      exact absurd (h _ c h2.1) h2.2
    · omega
theorem accI_good (A : SA) (y : Nat) : accI A y (sw A) = goodS A y := Bool.eq_iff_iff.mpr ((accI_iff A y (sw A)).trans (goodS_iff A y).symm)

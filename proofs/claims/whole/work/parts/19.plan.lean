/-! ===== planning: which rounds are taken, the fewest rounds, the orders ===== -/
theorem or_add {a b : Nat} (ha : a < 128) (hb : b < 128) (h : a &&& b = 0) : a ||| b = a + b := by
  have q : ∀ a, a < 128 → ∀ b, b < 128 → a &&& b = 0 → a ||| b = a + b := by decide +kernel
  exact q a ha b hb h
theorem or_lt {a b : Nat} (ha : a < 128) (hb : b < 128) : a ||| b < 128 := Nat.or_lt_two_pow (n := 7) ha hb
theorem wi_or {a b u : Nat} (ha : wi a u = true) (hb : wi b u = true) : wi (a ||| b) u = true := by
  unfold wi at *
  rw [beq_iff_eq] at *
  rw [Nat.and_or_distrib_right, ha, hb]
theorem wi_le {a u : Nat} (h : wi a u = true) : a ≤ u := by
  unfold wi at h
  rw [beq_iff_eq] at h
  rw [← h]; exact Nat.and_le_right
/-- set within u and apart from had -/
theorem wi_apart {s u d : Nat} (hs : s < 128) (hu : u < 128) (hd : d < 128) : wi s (u &&& (127 ^^^ d)) = (wi s u && (d &&& s == 0)) := by
  have q1 : ∀ s, s < 128 → ∀ d, d < 128 → (s &&& (127 ^^^ d) = s ↔ d &&& s = 0) := by decide +kernel
  apply Bool.eq_iff_iff.mpr
  unfold wi
  rw [Bool.and_eq_true, beq_iff_eq, beq_iff_eq, beq_iff_eq, ← q1 s hs d hd]
  constructor
  · intro h
    constructor
    · rw [← h, Nat.and_assoc, Nat.and_comm (u &&& (127 ^^^ d)) u, ← Nat.and_assoc u, Nat.and_self]
    · rw [← h, Nat.and_assoc, Nat.and_assoc u, Nat.and_self]
  · rintro ⟨h1, h2⟩
    rw [← Nat.and_assoc, h1, h2]
theorem nx_apart {u d : Nat} (hu : u < 128) (hd : d < 128) : nI u &&& (nI d ^^^ (-1 : Int32)) = nI (u &&& (127 ^^^ d)) := by
  have q : ∀ u, u < 128 → ∀ d, d < 128 → nI u &&& (nI d ^^^ (-1 : Int32)) = nI (u &&& (127 ^^^ d)) := by decide +kernel
  exact q u hu d hd
/-- the round set behind had is taken -/
def tkS (A : SA) (had set : Nat) : Bool := lst (fun y => wi y set && !(goodS A (had ||| y))) (set + 1) 0 == set + 1
def okS (A : SA) (had s : Nat) : Bool := (wi s (unlikeS A) && (had &&& s == 0)) && tkS A had s
def bst (val : Nat → Nat) (ok : Nat → Bool) : Nat → Nat
  | 0 => 99
  | s + 1 => if val (s + 1) + 1 < bst val ok s ∧ ok (s + 1) = true then val (s + 1) + 1 else bst val ok s
theorem bst_cong {v v' : Nat → Nat} {ok : Nat → Bool} : ∀ n, (∀ s, 1 ≤ s → s ≤ n → ok s = true → v s = v' s) → bst v ok n = bst v' ok n
  | 0, _ => rfl
  | n + 1, h => by
    rw [bst, bst, bst_cong n (fun s h1 h2 => h s h1 (by omega))]
    by_cases c : ok (n + 1) = true
    · rw [h (n + 1) (by omega) (by omega) c]
    · rw [if_neg (fun z => c z.2), if_neg (fun z => c z.2)]
/-- the table of the fewest rounds, filled from 127 down -/
def tabS (A : SA) : Nat → Nat → Nat
  | 0 => fun _ => 99
  | k + 1 => va_up (tabS A k) (127 - k) (if 127 - k = unlikeS A then 0 else bst (fun s => tabS A k ((127 - k) ||| s)) (okS A (127 - k)) (unlikeS A))
def TS (A : SA) (had : Nat) : Nat := tabS A 128 had
theorem tab_stays (A : SA) : ∀ (n k had : Nat), k + n ≤ 128 → 128 - k ≤ had → tabS A (k + n) had = tabS A k had
  | 0, _, _, _, _ => rfl
  | n + 1, k, had, h1, h2 => by
    rw [show k + (n + 1) = (k + n) + 1 by omega, tabS, va_up, if_neg (by omega)]
    exact tab_stays A n k had (by omega) h2
theorem TS_at (A : SA) {k had : Nat} (hk : k ≤ 128) (hh : 128 - k ≤ had) : TS A had = tabS A k had := by
  have := tab_stays A (128 - k) k had (by omega) hh
  rw [show k + (128 - k) = 128 by omega] at this
  exact this
theorem TS_eq {A : SA} (hA : OkA A) {had : Nat} (hh : had < 128) : TS A had = if had = unlikeS A then 0 else bst (fun s => TS A (had ||| s)) (okS A had) (unlikeS A) := by
  have hu := unlike_lt hA
  rw [TS_at A (k := 127 - had + 1) (by omega) (by omega), tabS, show 127 - (127 - had) = had by omega, va_up, if_pos rfl]
  split
  · rfl
  · apply bst_cong
    intro s h1 h2 hok
    have h3 : had &&& s = 0 := by
      unfold okS at hok
      simp only [Bool.and_eq_true, beq_iff_eq] at hok
      exact hok.1.2
    have hs : s < 128 := by omega
    have := or_add hh hs h3
    rw [TS_at A (k := 127 - had) (by omega) (by omega)]
def pc (m : Nat) : Nat := bit m 0 + bit m 1 + bit m 2 + bit m 3 + bit m 4 + bit m 5 + bit m 6
theorem pc_or {a s : Nat} (ha : a < 128) (hs : s < 128) (h1 : 1 ≤ s) (h : a &&& s = 0) : pc a + 1 ≤ pc (a ||| s) ∧ pc (a ||| s) ≤ 7 := by
  have q : ∀ a, a < 128 → ∀ s, s < 128 → 1 ≤ s → a &&& s = 0 → (pc a + 1 ≤ pc (a ||| s) ∧ pc (a ||| s) ≤ 7) := by decide +kernel
  exact q a ha s hs h1 h
theorem bst_le {v : Nat → Nat} {ok : Nat → Bool} {c : Nat} : ∀ n, (∀ s, 1 ≤ s → s ≤ n → ok s = true → v s = 99 ∨ v s + 1 ≤ c) → bst v ok n = 99 ∨ bst v ok n ≤ c
  | 0, _ => Or.inl rfl
  | n + 1, h => by
    have ih := bst_le n (fun s h1 h2 h3 => h s h1 (by omega) h3)
    rw [bst]
    split
    · rename_i q
      rcases h (n + 1) (by omega) (by omega) q.2 with e | e
      · rcases ih with e2 | e2
        · rw [e, e2] at q; omega
        · omega
      · exact Or.inr e
    · exact ih
theorem TS_le {A : SA} (hA : OkA A) : ∀ (n had : Nat), had < 128 → 7 - pc had ≤ n → pc had ≤ 7 → TS A had = 99 ∨ TS A had ≤ 7 - pc had
  | n, had, hh, hn, h7 => by
    have hu := unlike_lt hA
    rw [TS_eq hA hh]
    split
    · exact Or.inr (by omega)
    · apply bst_le
      intro s h1 h2 hok
      unfold okS at hok
      simp only [Bool.and_eq_true, beq_iff_eq] at hok
      have hp := pc_or hh (show s < 128 by omega) h1 hok.1.2
      cases n with
      | zero => omega
      | succ n =>
        have := TS_le hA n (had ||| s) (or_lt hh (by omega)) (by omega) hp.2
        omega
theorem pc_le {m : Nat} (h : m < 128) : pc m ≤ 7 := by
  have q : ∀ m, m < 128 → pc m ≤ 7 := by decide +kernel
  exact q m h
theorem TS_small {A : SA} (hA : OkA A) {had : Nat} (hh : had < 128) : TS A had = 99 ∨ TS A had ≤ 7 := by
  have := TS_le hA (7 - pc had) had hh (Nat.le_refl _) (pc_le hh)
  omega
/-- there is a next round, where a plan can go on -/
theorem bst_hit {v : Nat → Nat} {ok : Nat → Bool} : ∀ n, bst v ok n < 99 → ∃ s, 1 ≤ s ∧ s ≤ n ∧ ok s = true ∧ v s + 1 = bst v ok n
  | 0, h => by simp [bst] at h
  | n + 1, h => by
    rw [bst] at h ⊢
    by_cases q : v (n + 1) + 1 < bst v ok n ∧ ok (n + 1) = true
    · rw [if_pos q]; exact ⟨n + 1, by omega, by omega, q.2, rfl⟩
    · rw [if_neg q] at h ⊢
      obtain ⟨s, h1, h2, h3, h4⟩ := bst_hit n h
      exact ⟨s, h1, by omega, h3, h4⟩
def nxP (A : SA) (had s : Nat) : Bool := okS A had s && (TS A (had ||| s) + 1 == TS A had)
def nxS (A : SA) (had : Nat) : Nat := lst (nxP A had) (unlikeS A) 1
theorem nxS_ok {A : SA} (hA : OkA A) {had : Nat} (hh : had < 128) (hne : had ≠ unlikeS A) (ht : TS A had < 99) : 1 ≤ nxS A had ∧ nxS A had ≤ unlikeS A ∧ nxP A had (nxS A had) = true := by
  have e := TS_eq hA hh
  rw [if_neg hne] at e
  rw [e] at ht
  obtain ⟨s, h1, h2, h3, h4⟩ := bst_hit _ ht
  rw [← e] at h4
  have hp : nxP A had s = true := by unfold nxP; rw [h3]; simpa using h4
  have hl := lst_le (nxP A had) (unlikeS A) 1
  have hlt : nxS A had ≤ s := by
    by_cases c : s < nxS A had
    · have := lst_no (unlikeS A) 1 s h1 c
      rw [hp] at this; cases this
    · omega
  exact ⟨hl.1, by omega, lst_yes (unlikeS A) 1 (by have : nxS A had ≤ s := hlt; unfold nxS at this; omega)⟩
/-- the plan of the fewest rounds -/
def plS (A : SA) : Nat → Nat → List Nat
  | 0, _ => []
  | n + 1, had => if had = unlikeS A then [] else nxS A had :: plS A n (had ||| nxS A had)
def leastS (A : SA) : List Nat := plS A 7 0
/-- the orders -/
def byS (A : SA) (W : Nat → Nat) (had s : Nat) : Nat := if (had ||| 2 ^ s = had) ∨ wi (had ||| 2 ^ s) (unlikeS A) = false then 0 else W (had ||| 2 ^ s)
def smS (f : Nat → Nat) : Nat → Nat
  | 0 => 0
  | s + 1 => smS f s + f s
theorem smS_cong {f g : Nat → Nat} : ∀ n, (∀ s, s < n → f s = g s) → smS f n = smS g n
  | 0, _ => rfl
  | n + 1, h => by rw [smS, smS, smS_cong n (fun s hs => h s (by omega)), h n (by omega)]
def otS (A : SA) : Nat → Nat → Nat
  | 0 => fun _ => 0
  | k + 1 => va_up (otS A k) (127 - k) (if goodS A (127 - k) = true then (if 127 - k = unlikeS A then 1 else smS (byS A (otS A k) (127 - k)) 7) else 0)
/-- how many safe orders there are from had on -/
def OS (A : SA) (had : Nat) : Nat := otS A 128 had
theorem ot_stays (A : SA) : ∀ (n k had : Nat), k + n ≤ 128 → 128 - k ≤ had → otS A (k + n) had = otS A k had
  | 0, _, _, _, _ => rfl
  | n + 1, k, had, h1, h2 => by
    rw [show k + (n + 1) = (k + n) + 1 by omega, otS, va_up, if_neg (by omega)]
    exact ot_stays A n k had (by omega) h2
theorem OS_at (A : SA) {k had : Nat} (hk : k ≤ 128) (hh : 128 - k ≤ had) : OS A had = otS A k had := by
  have := ot_stays A (128 - k) k had (by omega) hh
  rw [show k + (128 - k) = 128 by omega] at this
  exact this
theorem or_gt {a s : Nat} (ha : a < 128) (hs : s < 7) : (a ||| 2 ^ s = a ∨ a < a ||| 2 ^ s) ∧ a ||| 2 ^ s < 128 := by
  have q : ∀ a, a < 128 → ∀ s, s < 7 → ((a ||| 2 ^ s = a ∨ a < a ||| 2 ^ s) ∧ a ||| 2 ^ s < 128) := by decide +kernel
  exact q a ha s hs
theorem OS_eq {A : SA} (hA : OkA A) {had : Nat} (hh : had < 128) : OS A had = if goodS A had = true then (if had = unlikeS A then 1 else smS (byS A (OS A) had) 7) else 0 := by
  rw [OS_at A (k := 127 - had + 1) (by omega) (by omega), otS, show 127 - (127 - had) = had by omega, va_up, if_pos rfl]
  split
  · split
    · rfl
    · apply smS_cong
      intro s hs
      unfold byS
      split
      · rfl
      · rename_i c
        have h1 := or_gt hh hs
        have h2 : had < had ||| 2 ^ s := h1.1.elim (fun z => absurd (Or.inl z) c) id
        rw [OS_at A (k := 127 - had) (by omega) (by omega)]
  · rfl

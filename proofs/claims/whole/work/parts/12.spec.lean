/-! ===== numbers ===== -/
theorem nx_and (a b : Nat) : nI a &&& nI b = nI (a &&& b) := by
  apply Int32.toBitVec_inj.1
  show BitVec.ofNat 32 a &&& BitVec.ofNat 32 b = BitVec.ofNat 32 (a &&& b)
  apply BitVec.eq_of_getLsbD_eq
  intro i hi
  simp [hi]
theorem nx_or (a b : Nat) : nI a ||| nI b = nI (a ||| b) := by
  apply Int32.toBitVec_inj.1
  show BitVec.ofNat 32 a ||| BitVec.ofNat 32 b = BitVec.ofNat 32 (a ||| b)
  apply BitVec.eq_of_getLsbD_eq
  intro i hi
  simp [hi]
theorem nx_xor (a b : Nat) : nI a ^^^ nI b = nI (a ^^^ b) := by
  apply Int32.toBitVec_inj.1
  show BitVec.ofNat 32 a ^^^ BitVec.ofNat 32 b = BitVec.ofNat 32 (a ^^^ b)
  apply BitVec.eq_of_getLsbD_eq
  intro i hi
  simp [hi]
theorem nx_shl {s : Nat} (hs : s < 7) : (1 : Int32) <<< (nI s &&& 31) = nI (2 ^ s) := by
  have h : ∀ s, s < 7 → (1 : Int32) <<< (nI s &&& 31) = nI (2 ^ s) := by decide +kernel
  exact h s hs
theorem nx_shl8 {s : Nat} (hs : s < 8) : (1 : Int32) <<< (nI s &&& 31) = nI (2 ^ s) := by
  have h : ∀ s, s < 8 → (1 : Int32) <<< (nI s &&& 31) = nI (2 ^ s) := by decide +kernel
  exact h s hs
theorem nx_bit {m s : Nat} (hm : m < 128) (hs : s < 7) : (nI m >>> (nI s &&& 31)) &&& 1 = nI (m / 2 ^ s % 2) := by
  have h : ∀ m, m < 128 → ∀ s, s < 7 → (nI m >>> (nI s &&& 31)) &&& 1 = nI (m / 2 ^ s % 2) := by decide +kernel
  exact h m hm s hs
theorem nI_pred1 {a b : Nat} (ha : a < 2 ^ 30) (hb : b < 2 ^ 30) : nI a ≤ nI b - 1 ↔ a + 1 ≤ b := by
  rw [Int32.le_iff_toInt_le, show (1 : Int32) = nI 1 from rfl, pk_sub_toInt hb (by omega), nI_toInt (by omega)]
  omega
theorem nI_inj {a b : Nat} (ha : a < 2 ^ 31) (hb : b < 2 ^ 31) (h : nI a = nI b) : a = b := (nI_eq ha hb).mp h
theorem nI_ne_m1 {a : Nat} (ha : a < 2 ^ 31) : ¬ nI a = (-1 : Int32) := by
  intro h
  have h2 := congrArg Int32.toInt h
  rw [nI_toInt ha] at h2
  have : (-1 : Int32).toInt = -1 := by decide
  omega
/-- an int is out of range, or one of the numbers below n -/
theorem in_cases (x : Int32) (n : Nat) (hn : n < 2 ^ 31) : (x < 0 ∨ nI n ≤ x) ∨ ∃ j, j < n ∧ x = nI j := by
  rcases pk_ix x hn with h | h | h
  · exact Or.inl (Or.inl h)
  · exact Or.inl (Or.inr h)
  · exact Or.inr h
/-- the first i from a on, within n steps, that has p; or a + n -/
def lst (p : Nat → Bool) : Nat → Nat → Nat
  | 0, i => i
  | n + 1, i => if p i then i else lst p n (i + 1)
theorem lst_le (p : Nat → Bool) : ∀ n i, i ≤ lst p n i ∧ lst p n i ≤ i + n
  | 0, i => ⟨Nat.le_refl _, Nat.le_refl _⟩
  | n + 1, i => by
    have h := lst_le p n (i + 1)
    unfold lst
    split <;> omega
theorem lst_cong {p q : Nat → Bool} : ∀ (n i : Nat), (∀ j, i ≤ j → j < i + n → p j = q j) → lst p n i = lst q n i
  | 0, _, _ => rfl
  | n + 1, i, h => by
    unfold lst
    rw [h i (Nat.le_refl _) (by omega), lst_cong n (i + 1) (fun j h1 h2 => h j (by omega) (by omega))]
theorem lst_yes {p : Nat → Bool} : ∀ (n i : Nat), lst p n i < i + n → p (lst p n i) = true
  | 0, i, h => by simp [lst] at h
  | n + 1, i, h => by
    unfold lst at h ⊢
    split
    · assumption
    · rename_i c
      rw [if_neg c] at h
      exact lst_yes n (i + 1) (by omega)
theorem lst_no {p : Nat → Bool} : ∀ (n i : Nat) (j : Nat), i ≤ j → j < lst p n i → p j = false
  | 0, i, j, h1, h2 => by simp [lst] at h2; omega
  | n + 1, i, j, h1, h2 => by
    unfold lst at h2
    split at h2
    · omega
    · rename_i c
      by_cases e : j = i
      · subst e; simpa using c
      · exact lst_no n (i + 1) j (by omega) h2
/-! ===== the scene: switches, hosts, ports, hosts' ports, rules, wants ===== -/
abbrev SA : Type := Nat × Nat × (Nat → Nat) × (Nat → Nat) × (Nat → Nat) × (Nat → Nat → Nat → Nat) × Nat × (Nat → Nat → Int32)
def sn (A : SA) : Nat := A.1
def sh (A : SA) : Nat := A.2.1
/-- a port: 0 nothing, 1 + q a link to port q, 100 + i host i -/
def sp (A : SA) : Nat → Nat := A.2.2.1
def sq (A : SA) : Nat → Nat := A.2.2.2.1
/-- how many rules row r has (r = 7 book + switch); rule i's value, bits, rank, act -/
def sc (A : SA) : Nat → Nat := A.2.2.2.2.1
def sd (A : SA) : Nat → Nat → Nat → Nat := A.2.2.2.2.2.1
def sw (A : SA) : Nat := A.2.2.2.2.2.2.1
def sx (A : SA) : Nat → Nat → Int32 := A.2.2.2.2.2.2.2
def spanB (v b m : Nat) : Bool := ((m ^^^ v) &&& b) == 0
/-- the best rank and one, and the act, by the first i rules -/
def actP (c : Nat → Nat → Nat) (m : Nat) : Nat → Nat × Nat
  | 0 => (0, 4)
  | i + 1 => if c i 2 + 1 ≤ (actP c m i).1 then actP c m i else if spanB (c i 0) (c i 1) m then (c i 2 + 1, c i 3) else actP c m i
def actR (n : Nat) (c : Nat → Nat → Nat) (m : Nat) : Nat := (actP c m n).2
def actS (A : SA) (r m : Nat) : Nat := actR (sc A r) (sd A r) m
theorem actP_cong {c c' : Nat → Nat → Nat} {m : Nat} : ∀ (n : Nat), (∀ i, i < n → ∀ j, j < 4 → c i j = c' i j) → actP c m n = actP c' m n
  | 0, _ => rfl
  | n + 1, h => by
    unfold actP
    rw [actP_cong n (fun i hi j hj => h i (by omega) j hj), h n (by omega) 0 (by omega), h n (by omega) 1 (by omega), h n (by omega) 2 (by omega), h n (by omega) 3 (by omega)]
theorem actR_cong {n : Nat} {c c' : Nat → Nat → Nat} {m : Nat} (h : ∀ i, i < n → ∀ j, j < 4 → c i j = c' i j) : actR n c m = actR n c' m := by unfold actR; rw [actP_cong n h]
theorem actP_le {c : Nat → Nat → Nat} {m : Nat} : ∀ (n : Nat), (∀ i, i < n → c i 2 ≤ 9 ∧ c i 3 ≤ 4) → (actP c m n).1 ≤ 10 ∧ (actP c m n).2 ≤ 4
  | 0, _ => by simp [actP]
  | n + 1, h => by
    have ih := actP_le (m := m) n (fun i hi => h i (by omega))
    have h9 := h n (by omega)
    unfold actP
    split
    · exact ih
    · split
      · exact ⟨by simp; omega, by simp; omega⟩
      · exact ih
def bit (m s : Nat) : Nat := m / 2 ^ s % 2
/-- where switch s sends a packet: a switch, or 100 and its end -/
def goS (A : SA) (mix m s : Nat) : Nat := if actS A (7 * bit mix s + s) m = 4 then 110 else if sp A (4 * s + actS A (7 * bit mix s + s) m) = 0 then 111 else if 100 ≤ sp A (4 * s + actS A (7 * bit mix s + s) m) then sp A (4 * s + actS A (7 * bit mix s + s) m) else (sp A (4 * s + actS A (7 * bit mix s + s) m) - 1) / 4
/-- a way on from switch s, behind the switches p -/
def wkS (go : Nat → Nat) : Nat → List Nat → Nat → List Nat × Nat
  | 0, p, s => (p ++ [s], 12)
  | n + 1, p, s => if 100 ≤ go s then (p ++ [s], go s - 100) else if go s ∈ p ++ [s] ∨ n = 0 then (p ++ [s], 12) else wkS go n (p ++ [s]) (go s)
def wayS (A : SA) (mix x m : Nat) : List Nat × Nat := wkS (goS A mix m) 7 [] (sq A x / 4)
def allS (A : SA) : Nat := 2 ^ sn A - 1
/-- whether a way is as want i asks of mark m -/
def metS (A : SA) (i m : Nat) (w : List Nat × Nat) : Bool :=
  if sx A i 0 = 0 then nI w.2 == sx A i 4 else if sx A i 0 = 1 then !(w.2 == 12) else if sx A i 0 = 2 then !(nI w.2 == sx A i 4) else if sx A i 0 = 3 then (!(nI w.2 == sx A i 4)) || w.1.any (fun t => nI t == sx A i 5)
  else (w == wayS A 0 (sx A i 3).toNatClampNeg m) || (w == wayS A (allS A) (sx A i 3).toNatClampNeg m)
def spanW (A : SA) (i m : Nat) : Bool := spanB (sx A i 1).toNatClampNeg (sx A i 2).toNatClampNeg m
/-- the least mark for which want i does not hold in a mixture, or 16 -/
def badS (A : SA) (i mix : Nat) : Nat := lst (fun m => spanW A i m && !(metS A i m (wayS A mix (sx A i 3).toNatClampNeg m))) 16 0
def keptS (A : SA) (i : Nat) : Bool := badS A i 0 == 16 && badS A i (allS A) == 16
/-- the first kept want that does not hold, or all of them -/
def whyS (A : SA) (mix : Nat) : Nat := lst (fun i => keptS A i && !(badS A i mix == 16)) (sw A) 0
def goodS (A : SA) (mix : Nat) : Bool := whyS A mix == sw A
def sameS (A : SA) (s : Nat) : Bool := sc A s == sc A (7 + s) && (List.range (sc A s)).all (fun i => (List.range 4).all (fun j => sd A s i j == sd A (7 + s) i j))
def unlS (A : SA) : Nat → Nat
  | 0 => 0
  | s + 1 => if sameS A s then unlS A s else unlS A s ||| 2 ^ s
def unlikeS (A : SA) : Nat := unlS A (sn A)
/-- what holds of every scene -/
def OkA (A : SA) : Prop := 1 ≤ sn A ∧ sn A ≤ 7 ∧ sh A ≤ 6 ∧ (∀ k, k < 28 → sp A k = 0 ∨ (1 ≤ sp A k ∧ sp A k ≤ 28) ∨ (100 ≤ sp A k ∧ sp A k < 100 + sh A)) ∧ (∀ i, i < sh A → sq A i < 28) ∧
  (∀ r, r < 14 → sc A r ≤ 6 ∧ ∀ i, i < sc A r → sd A r i 0 ≤ 15 ∧ sd A r i 1 ≤ 15 ∧ sd A r i 2 ≤ 9 ∧ sd A r i 3 ≤ 4) ∧ sw A ≤ 10 ∧
  (∀ i, i < sw A → (∃ k, k ≤ 4 ∧ sx A i 0 = nI k) ∧ (∃ v, v ≤ 15 ∧ sx A i 1 = nI v) ∧ (∃ v, v ≤ 15 ∧ sx A i 2 = nI v) ∧ (∃ a, a < sh A ∧ sx A i 3 = nI a) ∧ (sx A i 0 = nI 3 → ∃ t, t < 7 ∧ sx A i 5 = nI t))
theorem actS_le {A : SA} (hA : OkA A) {r m : Nat} (hr : r < 14) : actS A r m ≤ 4 := (actP_le (m := m) (sc A r) (fun i hi => ⟨((hA.2.2.2.2.2.1 r hr).2 i hi).2.2.1, ((hA.2.2.2.2.2.1 r hr).2 i hi).2.2.2⟩)).2
theorem bit_lt (m s : Nat) : bit m s < 2 := Nat.mod_lt _ (by decide)
theorem goS_lt {A : SA} (hA : OkA A) {mix m s : Nat} (hs : s < 7) : goS A mix m s < 7 ∨ (100 ≤ goS A mix m s ∧ goS A mix m s < 112) := by
  have hb := bit_lt mix s
  have ha := actS_le hA (r := 7 * bit mix s + s) (m := m) (by omega)
  unfold goS
  split
  · right; omega
  · rename_i c
    have hk := hA.2.2.2.1 (4 * s + actS A (7 * bit mix s + s) m) (by omega)
    have h6 := hA.2.2.1
    split
    · right; omega
    · split
      · right; omega
      · left; omega

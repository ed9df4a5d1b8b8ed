/-! ===== the standing heap: what lies where behind the two constructors ===== -/
def mh0 : MH := (fun _ => 0, fun _ => 0, fun _ _ => 0, fun _ _ => none, 0, 0)
/-- kinds: 0 desk, 1 net, 2 ports, 3 hostSwitches, 4 rows, 5 classes, 6 + 6 r row r with its five arrays, 90 judge, 91 wants, 92 kept, 93 good, 94, 96, 98 the ways by old, by new, mixed (each with its stops), 100 the blank want, 101 plan, 103 planner, 106 run, 107 packets, 108 + 3 k packet k with its way and stops, 228 latest, 230 the reference and its arrays -/
def gk (a : Nat) : Nat :=
  if a < 6 then (if a = 0 then 9 else if a = 1 then 1 else if a = 4 then 14 else 11)
  else if a < 90 then (if a % 6 = 0 then 5 else 11)
  else if a < 108 then (if a = 90 then 0 else if a = 91 then 15 else if a < 94 then 12 else if a < 100 then (if a % 2 = 0 then 8 else 11) else if a = 100 then 7 else if a = 101 then 3 else if a = 102 then 11 else if a = 103 then 4 else if a < 106 then 11 else if a = 106 then 6 else 13)
  else if a < 228 then (if a % 3 = 0 then 2 else if a % 3 = 1 then 8 else 11)
  else if a = 228 then 8 else if a = 230 then 10 else if a = 241 then 12 else 11
def gl (a : Nat) : Nat :=
  if a < 6 then (if a = 2 then 28 else if a = 3 then 6 else if a = 4 then 14 else 16)
  else if a < 90 then (if a % 6 = 5 then 16 else 6)
  else if a < 108 then (if a = 91 then 10 else if a = 92 then 10 else if a = 93 then 128 else if a < 103 then 7 else if a < 106 then 128 else 40)
  else if a < 230 then 7
  else if a < 233 then 28 else if a = 233 then 6 else if a = 234 then 14 else if a = 235 then 336 else if a = 236 then 60 else if a < 241 then 8 else if a = 241 then 128 else if a = 242 then 16 else if a = 243 then 7 else if a < 246 then 128 else if a < 251 then 40 else 320
def gr (a k : Nat) : Option Nat :=
  if a < 6 then (if a = 0 then (if k = 0 then some 1 else if k = 1 then some 90 else if k = 2 then some 101 else if k = 3 then some 103 else if k = 4 then some 106 else if k = 5 then some 228 else none) else if a = 1 then (if k < 4 then some (2 + k) else none) else if a = 4 then (if k < 14 then some (6 + 6 * k) else none) else none)
  else if a < 90 then (if a % 6 = 0 ∧ k < 5 then some (a + 1 + k) else none)
  else if a < 108 then (if a = 90 then (if k = 0 then some 1 else if k < 4 then some (90 + k) else if k < 7 then some (86 + 2 * k) else none) else if a = 94 ∨ a = 96 ∨ a = 98 ∨ a = 101 then (if k = 0 then some (a + 1) else none) else if a = 103 then (if k = 0 then some 1 else if k = 1 then some 90 else if k = 2 then some 104 else if k = 3 then some 105 else none) else if a = 106 then (if k = 0 then some 1 else if k = 1 then some 90 else if k = 2 then some 101 else if k = 3 then some 107 else none) else if a = 107 then (if k < 40 then some (108 + 3 * k) else none) else none)
  else if a < 229 then (if a % 3 ≠ 2 ∧ k = 0 then some (a + 1) else none)
  else if a = 230 then (if 3 ≤ k ∧ k < 13 then some (228 + k) else if k = 22 then some 241 else if k = 23 then some 242 else if 25 ≤ k ∧ k < 28 then some (218 + k) else if 33 ≤ k ∧ k < 39 then some (213 + k) else none)
  else none
def Gr (h : MH) : Prop := 252 ≤ mm_N h ∧ (∀ a, a < 252 → mm_K h a = gk a) ∧ (∀ a, a < 252 → 11 ≤ gk a → mm_L h a = gl a) ∧ (∀ a k b, a < 252 → gr a k = some b → mm_R h a k = some b)
theorem lt_nI (n : Nat) : (OfNat.ofNat n : Int32) = nI n := rfl
theorem Gr.si {h : MH} (hG : Gr h) {a k : Nat} {x : Int32} : Gr (mm_si h a k x) := hG
section
variable {h : MH}
theorem gK_g {α : Type} {x : Option α} {a ci : Nat} (hG : Gr h) (ha : a < 252) (hk : gk a = ci) : gK h a ci x = x := by
  unfold gK; rw [if_pos ⟨Nat.lt_of_lt_of_le ha hG.1, (hG.2.1 a ha).trans hk⟩]
theorem gI_g {a ci k : Nat} (hG : Gr h) (ha : a < 252) (hk : gk a = ci) : gI h a ci k = some (mm_I h a k) := by
  unfold gI; rw [if_pos ⟨Nat.lt_of_lt_of_le ha hG.1, (hG.2.1 a ha).trans hk⟩]
theorem gR_g {a ci k b : Nat} (hG : Gr h) (ha : a < 252) (hk : gk a = ci) (hr : gr a k = some b) : gR h a ci k = some b := by
  unfold gR; rw [if_pos ⟨Nat.lt_of_lt_of_le ha hG.1, (hG.2.1 a ha).trans hk⟩]; exact hG.2.2.2 a k b ha hr
theorem pI_g {a ci k : Nat} {x : Int32} (hG : Gr h) (ha : a < 252) (hk : gk a = ci) : pI h a ci k x = some (mm_si h a k x) := by
  unfold pI; rw [if_pos ⟨Nat.lt_of_lt_of_le ha hG.1, (hG.2.1 a ha).trans hk⟩]
theorem pZ_g {a ci k : Nat} {x : Int32} (hG : Gr h) (ha : a < 252) (hk : gk a = ci) (hx : x = 0 ∨ x = 1) : pZ h a ci k x = some (mm_si h a k x) := by
  unfold pZ; rw [if_pos ⟨hx, Nat.lt_of_lt_of_le ha hG.1, (hG.2.1 a ha).trans hk⟩]
theorem in_ok {j n : Nat} (hj : j < n) (hn : n < 2 ^ 31) : ¬ (nI j < 0 ∨ n ≤ (nI j).toNatClampNeg) := by
  rw [nI_clamp (by omega)]; intro q; rcases q with q | q
  · exact nI_pos (by omega) q
  · omega
theorem ite_le {c : Prop} [Decidable c] {x y n : Nat} (hx : x ≤ n) (hy : y ≤ n) : (if c then x else y) ≤ n := by split <;> assumption
theorem gl_le (a : Nat) : gl a ≤ 336 := by
  unfold gl
  repeat (first | decide | apply ite_le)
theorem gl_lt (a : Nat) : gl a < 2 ^ 31 := Nat.lt_of_le_of_lt (gl_le a) (by decide)
theorem aI_g {a j : Nat} (hG : Gr h) (ha : a < 252) (hk : gk a = 11) (hj : j < gl a) : aI h a (nI j) = some (mm_I h a j) := by
  have hL := hG.2.2.1 a ha (by omega)
  unfold aI; rw [if_pos ⟨⟨Nat.lt_of_lt_of_le ha hG.1, (hG.2.1 a ha).trans hk⟩, by rw [hL]; exact in_ok hj (gl_lt a)⟩, nI_clamp (by have := gl_lt a; omega)]
theorem sI_g {a j : Nat} {x : Int32} (hG : Gr h) (ha : a < 252) (hk : gk a = 11) (hj : j < gl a) : sI h a (nI j) x = some (mm_si h a j x) := by
  have hL := hG.2.2.1 a ha (by omega)
  unfold sI; rw [if_pos ⟨⟨Nat.lt_of_lt_of_le ha hG.1, (hG.2.1 a ha).trans hk⟩, by rw [hL]; exact in_ok hj (gl_lt a)⟩, nI_clamp (by have := gl_lt a; omega)]
theorem aZ_g {a j : Nat} (hG : Gr h) (ha : a < 252) (hk : gk a = 12) (hj : j < gl a) : aZ h a (nI j) = some (mm_I h a j) := by
  have hL := hG.2.2.1 a ha (by omega)
  unfold aZ; rw [if_pos ⟨⟨Nat.lt_of_lt_of_le ha hG.1, (hG.2.1 a ha).trans hk⟩, by rw [hL]; exact in_ok hj (gl_lt a)⟩, nI_clamp (by have := gl_lt a; omega)]
theorem sZ_g {a j : Nat} {x : Int32} (hG : Gr h) (ha : a < 252) (hk : gk a = 12) (hj : j < gl a) (hx : x = 0 ∨ x = 1) : sZ h a (nI j) x = some (mm_si h a j x) := by
  have hL := hG.2.2.1 a ha (by omega)
  unfold sZ; rw [if_pos ⟨hx, ⟨Nat.lt_of_lt_of_le ha hG.1, (hG.2.1 a ha).trans hk⟩, by rw [hL]; exact in_ok hj (gl_lt a)⟩, nI_clamp (by have := gl_lt a; omega)]
theorem aR_g {a j b : Nat} (hG : Gr h) (ha : a < 252) (hk : gk a = 13 ∨ gk a = 14 ∨ gk a = 15) (hj : j < gl a) (hr : mm_R h a j = some b) : aR h a (nI j) = some b := by
  have hL := hG.2.2.1 a ha (by omega)
  have hK := hG.2.1 a ha
  unfold aR; rw [if_pos ⟨⟨Nat.lt_of_lt_of_le ha hG.1, by rw [hK]; exact hk⟩, by rw [hL]; exact in_ok hj (gl_lt a)⟩, nI_clamp (by have := gl_lt a; omega)]; exact hr
end
/-- rows and packets by their numbers -/
theorem gk_row {r : Nat} (hr : r < 14) : gk (6 + 6 * r) = 5 := by unfold gk; rw [if_neg (by omega), if_pos (by omega), if_pos (by omega)]
theorem gk_rowa {r j : Nat} (hr : r < 14) (hj : 1 ≤ j) (hj2 : j < 6) : gk (6 + 6 * r + j) = 11 := by unfold gk; rw [if_neg (by omega), if_pos (by omega), if_neg (by omega)]
theorem gl_rowa {r j : Nat} (hr : r < 14) (hj : 1 ≤ j) (hj2 : j < 5) : gl (6 + 6 * r + j) = 6 := by unfold gl; rw [if_neg (by omega), if_pos (by omega), if_neg (by omega)]
theorem gl_rowm {r : Nat} (hr : r < 14) : gl (6 + 6 * r + 5) = 16 := by unfold gl; rw [if_neg (by omega), if_pos (by omega), if_pos (by omega)]
theorem gr_row {r k : Nat} (hr : r < 14) (hk : k < 5) : gr (6 + 6 * r) k = some (6 + 6 * r + 1 + k) := by unfold gr; rw [if_neg (by omega), if_pos (by omega), if_pos (by omega)]
theorem gr_rows {r : Nat} (hr : r < 14) : gr 4 r = some (6 + 6 * r) := by unfold gr; simp [hr]
theorem gk_pk {k : Nat} (hk : k < 40) : gk (108 + 3 * k) = 2 := by unfold gk; rw [if_neg (by omega), if_neg (by omega), if_neg (by omega), if_pos (by omega), if_pos (by omega)]
theorem gk_pw {k : Nat} (hk : k < 40) : gk (109 + 3 * k) = 8 := by unfold gk; rw [if_neg (by omega), if_neg (by omega), if_neg (by omega), if_pos (by omega), if_neg (by omega), if_pos (by omega)]
theorem gk_ps {k : Nat} (hk : k < 40) : gk (110 + 3 * k) = 11 := by unfold gk; rw [if_neg (by omega), if_neg (by omega), if_neg (by omega), if_pos (by omega), if_neg (by omega), if_neg (by omega)]
theorem gl_ps {k : Nat} (hk : k < 40) : gl (110 + 3 * k) = 7 := by unfold gl; rw [if_neg (by omega), if_neg (by omega), if_neg (by omega), if_pos (by omega)]
theorem gr_pk {k : Nat} (hk : k < 40) : gr (108 + 3 * k) 0 = some (109 + 3 * k) := by unfold gr; rw [if_neg (by omega), if_neg (by omega), if_neg (by omega), if_pos (by omega), if_pos (by omega)]; congr 1; omega
theorem gr_pw {k : Nat} (hk : k < 40) : gr (109 + 3 * k) 0 = some (110 + 3 * k) := by unfold gr; rw [if_neg (by omega), if_neg (by omega), if_neg (by omega), if_pos (by omega), if_pos (by omega)]; congr 1; omega
theorem gr_pks {k : Nat} (hk : k < 40) : gr 107 k = some (108 + 3 * k) := by unfold gr; simp [hk]
/-- a way's cell and its stops -/
def IsW (w : Nat) : Prop := w < 252 ∧ gk w = 8 ∧ gr w 0 = some (w + 1) ∧ w + 1 < 252 ∧ gk (w + 1) = 11 ∧ gl (w + 1) = 7
theorem isW_old : IsW 94 := by unfold IsW; decide
theorem isW_new : IsW 96 := by unfold IsW; decide
theorem isW_mix : IsW 98 := by unfold IsW; decide
theorem isW_lat : IsW 228 := by unfold IsW; decide
theorem isW_pk {k : Nat} (hk : k < 40) : IsW (109 + 3 * k) := ⟨by omega, gk_pw hk, by rw [gr_pw hk]; congr 1; omega, by omega, by rw [show 109 + 3 * k + 1 = 110 + 3 * k by omega]; exact gk_ps hk, by rw [show 109 + 3 * k + 1 = 110 + 3 * k by omega]; exact gl_ps hk⟩
/-- only the ints of the cells in P may differ -/
def Only (h h' : MH) (P : Nat → Prop) : Prop := mm_K h' = mm_K h ∧ mm_L h' = mm_L h ∧ mm_R h' = mm_R h ∧ mm_N h' = mm_N h ∧ mm_S h' = mm_S h ∧ ∀ a, ¬ P a → mm_I h' a = mm_I h a
theorem Only.rf {h : MH} {P : Nat → Prop} : Only h h P := ⟨rfl, rfl, rfl, rfl, rfl, fun _ _ => rfl⟩
theorem Only.tr {h h1 h2 : MH} {P : Nat → Prop} (p : Only h h1 P) (q : Only h1 h2 P) : Only h h2 P := ⟨q.1.trans p.1, q.2.1.trans p.2.1, q.2.2.1.trans p.2.2.1, q.2.2.2.1.trans p.2.2.2.1, q.2.2.2.2.1.trans p.2.2.2.2.1, fun a ha => (q.2.2.2.2.2 a ha).trans (p.2.2.2.2.2 a ha)⟩
theorem Only.mono {h h1 : MH} {P P' : Nat → Prop} (p : Only h h1 P) (hp : ∀ a, P a → P' a) : Only h h1 P' := ⟨p.1, p.2.1, p.2.2.1, p.2.2.2.1, p.2.2.2.2.1, fun a ha => p.2.2.2.2.2 a (fun q => ha (hp a q))⟩
theorem Only.si {h : MH} {P : Nat → Prop} {a k : Nat} {x : Int32} (ha : P a) : Only h (mm_si h a k x) P := ⟨rfl, rfl, rfl, rfl, rfl, fun b hb => by
  funext j
  have hq : ¬ (b = a ∧ j = k) := fun q => hb (q.1 ▸ ha)
  rw [si_I, if_neg hq]⟩
theorem Only.Gr {h h1 : MH} {P : Nat → Prop} (p : Only h h1 P) (hG : Gr h) : Gr h1 := by
  obtain ⟨p1, p2, p3, p4, -⟩ := p
  refine ⟨by rw [p4]; exact hG.1, fun a ha => by rw [p1]; exact hG.2.1 a ha, fun a ha hk => by rw [p2]; exact hG.2.2.1 a ha hk, fun a k b ha hr => by rw [p3]; exact hG.2.2.2 a k b ha hr⟩

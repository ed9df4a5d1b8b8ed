/-! ===== literals beside numbers ===== -/
section
variable {a b n : Nat}
theorem cl_lt1 (ha : a < 2 ^ 31) (hn : n < 2 ^ 31) : (nI a < (OfNat.ofNat n : Int32)) = (a < (OfNat.ofNat n : Nat)) := propext (nI_ltI ha hn)
theorem cl_lt2 (ha : a < 2 ^ 31) (hn : n < 2 ^ 31) : ((OfNat.ofNat n : Int32) < nI a) = ((OfNat.ofNat n : Nat) < a) := propext (nI_ltI hn ha)
theorem cl_le1 (ha : a < 2 ^ 31) (hn : n < 2 ^ 31) : (nI a ≤ (OfNat.ofNat n : Int32)) = (a ≤ (OfNat.ofNat n : Nat)) := propext (nI_leI ha hn)
theorem cl_le2 (ha : a < 2 ^ 31) (hn : n < 2 ^ 31) : ((OfNat.ofNat n : Int32) ≤ nI a) = ((OfNat.ofNat n : Nat) ≤ a) := propext (nI_leI hn ha)
theorem cl_eq1 (ha : a < 2 ^ 31) (hn : n < 2 ^ 31) : (nI a = (OfNat.ofNat n : Int32)) = (a = (OfNat.ofNat n : Nat)) := propext (nI_eq ha hn)
theorem cn_lt (ha : a < 2 ^ 31) (hb : b < 2 ^ 31) : (nI a < nI b) = (a < b) := propext (nI_ltI ha hb)
theorem cn_le (ha : a < 2 ^ 31) (hb : b < 2 ^ 31) : (nI a ≤ nI b) = (a ≤ b) := propext (nI_leI ha hb)
theorem cn_eq (ha : a < 2 ^ 31) (hb : b < 2 ^ 31) : (nI a = nI b) = (a = b) := propext (nI_eq ha hb)
theorem cl_m1 (ha : a < 2 ^ 31) : (nI a = (-1 : Int32)) = False := eq_false (nI_ne_m1 ha)
theorem cl_neg (ha : a < 2 ^ 31) : (nI a < 0) = False := eq_false (nI_pos ha)
theorem cl_add (a n : Nat) : nI a + (OfNat.ofNat n : Int32) = nI (a + (OfNat.ofNat n : Nat)) := nI_add a n
theorem cl_add2 (a n : Nat) : (OfNat.ofNat n : Int32) + nI a = nI ((OfNat.ofNat n : Nat) + a) := nI_add n a
theorem cl_mul (a n : Nat) : nI a * (OfNat.ofNat n : Int32) = nI (a * (OfNat.ofNat n : Nat)) := pk_mul a n
theorem cl_mul2 (a n : Nat) : (OfNat.ofNat n : Int32) * nI a = nI ((OfNat.ofNat n : Nat) * a) := pk_mul n a
theorem cl_lmul (a n : Nat) : (OfNat.ofNat n : Int32) * (OfNat.ofNat a : Int32) = nI (n * a) := pk_mul n a
theorem cl_sub (h : (OfNat.ofNat n : Nat) ≤ a) : nI a - (OfNat.ofNat n : Int32) = nI (a - (OfNat.ofNat n : Nat)) := pk_sub h
theorem cl_div (ha : a < 2 ^ 31) (h0 : 0 < (OfNat.ofNat n : Nat)) (hn : (OfNat.ofNat n : Nat) < 2 ^ 31) : nI a / (OfNat.ofNat n : Int32) = nI (a / (OfNat.ofNat n : Nat)) := pk_div ha h0 hn
theorem cl_and (a n : Nat) : nI a &&& (OfNat.ofNat n : Int32) = nI (a &&& (OfNat.ofNat n : Nat)) := nx_and a n
theorem aI_lit {h : MH} : aI h a (OfNat.ofNat n : Int32) = aI h a (nI (OfNat.ofNat n : Nat)) := rfl
theorem sI_lit {h : MH} {x : Int32} : sI h a (OfNat.ofNat n : Int32) x = sI h a (nI (OfNat.ofNat n : Nat)) x := rfl
end
theorem it_lt1 {α : Type} {a n : Nat} {x y : α} (ha : a < 2 ^ 31) (hn : n < 2 ^ 31) : (if nI a < (OfNat.ofNat n : Int32) then x else y) = (if a < (OfNat.ofNat n : Nat) then x else y) := by
  by_cases c : a < (OfNat.ofNat n : Nat)
  · rw [if_pos c]; exact if_pos ((nI_ltI ha hn).mpr c)
  · rw [if_neg c]; exact if_neg (fun q => c ((nI_ltI ha hn).mp q))
theorem it_lt2 {α : Type} {a n : Nat} {x y : α} (ha : a < 2 ^ 31) (hn : n < 2 ^ 31) : (if (OfNat.ofNat n : Int32) < nI a then x else y) = (if (OfNat.ofNat n : Nat) < a then x else y) := by
  by_cases c : (OfNat.ofNat n : Nat) < a
  · rw [if_pos c]; exact if_pos ((nI_ltI hn ha).mpr c)
  · rw [if_neg c]; exact if_neg (fun q => c ((nI_ltI hn ha).mp q))
theorem it_le1 {α : Type} {a n : Nat} {x y : α} (ha : a < 2 ^ 31) (hn : n < 2 ^ 31) : (if nI a ≤ (OfNat.ofNat n : Int32) then x else y) = (if a ≤ (OfNat.ofNat n : Nat) then x else y) := by
  by_cases c : a ≤ (OfNat.ofNat n : Nat)
  · rw [if_pos c]; exact if_pos ((nI_leI ha hn).mpr c)
  · rw [if_neg c]; exact if_neg (fun q => c ((nI_leI ha hn).mp q))
theorem it_le2 {α : Type} {a n : Nat} {x y : α} (ha : a < 2 ^ 31) (hn : n < 2 ^ 31) : (if (OfNat.ofNat n : Int32) ≤ nI a then x else y) = (if (OfNat.ofNat n : Nat) ≤ a then x else y) := by
  by_cases c : (OfNat.ofNat n : Nat) ≤ a
  · rw [if_pos c]; exact if_pos ((nI_leI hn ha).mpr c)
  · rw [if_neg c]; exact if_neg (fun q => c ((nI_leI hn ha).mp q))
theorem it_eq1 {α : Type} {a n : Nat} {x y : α} (ha : a < 2 ^ 31) (hn : n < 2 ^ 31) : (if nI a = (OfNat.ofNat n : Int32) then x else y) = (if a = (OfNat.ofNat n : Nat) then x else y) := by
  by_cases c : a = (OfNat.ofNat n : Nat)
  · rw [if_pos c]; exact if_pos ((nI_eq ha hn).mpr c)
  · rw [if_neg c]; exact if_neg (fun q => c ((nI_eq ha hn).mp q))
theorem in_lt {α : Type} {a n : Nat} {x y : α} (ha : a < 2 ^ 31) (hn : n < 2 ^ 31) : (if nI a < nI n then x else y) = (if a < n then x else y) := by
  by_cases c : a < n
  · rw [if_pos c]; exact if_pos ((nI_ltI ha hn).mpr c)
  · rw [if_neg c]; exact if_neg (fun q => c ((nI_ltI ha hn).mp q))
theorem in_le {α : Type} {a n : Nat} {x y : α} (ha : a < 2 ^ 31) (hn : n < 2 ^ 31) : (if nI a ≤ nI n then x else y) = (if a ≤ n then x else y) := by
  by_cases c : a ≤ n
  · rw [if_pos c]; exact if_pos ((nI_leI ha hn).mpr c)
  · rw [if_neg c]; exact if_neg (fun q => c ((nI_leI ha hn).mp q))
theorem in_eq {α : Type} {a n : Nat} {x y : α} (ha : a < 2 ^ 31) (hn : n < 2 ^ 31) : (if nI a = nI n then x else y) = (if a = n then x else y) := by
  by_cases c : a = n
  · rw [if_pos c]; exact if_pos ((nI_eq ha hn).mpr c)
  · rw [if_neg c]; exact if_neg (fun q => c ((nI_eq ha hn).mp q))
theorem it_m1 {α : Type} {a : Nat} {x y : α} (ha : a < 2 ^ 31) : (if nI a = (-1 : Int32) then x else y) = y := if_neg (nI_ne_m1 ha)
theorem it_neg {α : Type} {a : Nat} {x y : α} (ha : a < 2 ^ 31) : (if nI a < 0 then x else y) = y := if_neg (nI_pos ha)
theorem bS {α β : Type} (a : α) (f : α → Option β) : (some a).bind f = f a := rfl
/-- reads that a write left as they were -/
theorem si_o {h : MH} {a k : Nat} {x : Int32} {b j : Nat} (hb : b ≠ a) : mm_I (mm_si h a k x) b j = mm_I h b j := by rw [si_I, if_neg (fun q => hb q.1)]
theorem si_o2 {h : MH} {a k : Nat} {x : Int32} {b j : Nat} (hj : j ≠ k) : mm_I (mm_si h a k x) b j = mm_I h b j := by rw [si_I, if_neg (fun q => hj q.2)]
theorem si_s {h : MH} {a k : Nat} {x : Int32} : mm_I (mm_si h a k x) a k = x := by rw [si_I, if_pos ⟨rfl, rfl⟩]
/-! ===== the class's scene ===== -/
def pcI (c : Nat) : Int32 := if c = 0 then -1 else if c < 100 then nI (c - 1) else nI c
def RXn (h : MH) (A : SA) : Prop := mm_I h 1 6 = nI (sn A) ∧ mm_I h 1 7 = nI (sh A) ∧ (∀ k, k < 28 → mm_I h 2 k = pcI (sp A k)) ∧ (∀ i, i < sh A → mm_I h 3 i = nI (sq A i / 4))
def RXr (h : MH) (A : SA) (r : Nat) : Prop := mm_I h (6 + 6 * r) 5 = nI (sc A r) ∧ (∀ i, i < sc A r → ∀ j, j < 4 → mm_I h (6 + 6 * r + 1 + j) i = nI (sd A r i j)) ∧ ∀ m, m < 16 → mm_I h (6 + 6 * r + 5) m = nI (actS A r m)
def RXw (h : MH) (A : SA) : Prop := mm_I h 90 7 = nI (sw A) ∧ ∀ i, i < sw A → ∃ o, mm_R h 91 i = some o ∧ o < mm_N h ∧ mm_K h o = 7 ∧ (∀ j, j < 6 → mm_I h o j = sx A i j) ∧ 252 ≤ o
def RX (h : MH) (A : SA) : Prop := RXn h A ∧ (∀ r, r < 14 → RXr h A r) ∧ RXw h A
theorem RX.only {h h' : MH} {A : SA} {P : Nat → Prop} (o : Only h h' P) (hp : ∀ a, P a → 91 < a ∧ a < 252) (R : RX h A) : RX h' A := by
  obtain ⟨o1, o2, o3, o4, o5, o6⟩ := o
  have e : ∀ a, a ≤ 91 ∨ 252 ≤ a → mm_I h' a = mm_I h a := fun a ha => o6 a (fun q => by have := hp a q; omega)
  obtain ⟨⟨n1, n2, n3, n4⟩, r, w1, w2⟩ := R
  refine ⟨⟨by rw [e 1 (by omega)]; exact n1, by rw [e 1 (by omega)]; exact n2, fun k hk => by rw [e 2 (by omega)]; exact n3 k hk, fun i hi => by rw [e 3 (by omega)]; exact n4 i hi⟩, fun q hq => ?_, by rw [e 90 (by omega)]; exact w1, fun i hi => ?_⟩
  · obtain ⟨r1, r2, r3⟩ := r q hq
    exact ⟨by rw [e _ (by omega)]; exact r1, fun i hi j hj => by rw [e _ (by omega)]; exact r2 i hi j hj, fun m hm => by rw [e _ (by omega)]; exact r3 m hm⟩
  · obtain ⟨o, p1, p2, p3, p4, p5⟩ := w2 i hi
    exact ⟨o, by rw [o3]; exact p1, by rw [o4]; exact p2, by rw [o1]; exact p3, fun j hj => by rw [e o (by omega)]; exact p4 j hj, p5⟩
theorem spanHas_eq {h : MH} {v b m : Nat} (hv : v ≤ 15) (hb : b ≤ 15) (hm : m < 16) : f_X9_spanHas h (nI v) (nI b) (nI m) = some (if spanB v b m then 1 else 0) := by
  have hlt : (m ^^^ v) &&& b < 16 := Nat.lt_of_le_of_lt Nat.and_le_right (by omega)
  unfold f_X9_spanHas spanB
  rw [nx_xor, nx_and]
  by_cases c : (m ^^^ v) &&& b = 0
  · rw [c]; rfl
  · rw [if_neg (by rw [show (0 : Int32) = nI 0 from rfl, cn_eq (by omega) (by omega)]; exact c)]
    simp [c]
/-- whereTo -/
theorem whereTo_eq {h : MH} {A : SA} (hG : Gr h) (hA : OkA A) (R : RX h A) {s mix m : Nat} (hs : s < 7) (hx : mix < 128) (hm : m < 16) : f_X1_whereTo h 1 (nI s) (nI mix) (nI m) = some (nI (goS A mix m s)) := by
  have hj : ∀ b, b < 2 → f_X1_whereTo_j26 h 1 (nI s) (nI m) (nI b) = some (nI (if actS A (7 * b + s) m = 4 then 110 else if sp A (4 * s + actS A (7 * b + s) m) = 0 then 111 else if 100 ≤ sp A (4 * s + actS A (7 * b + s) m) then sp A (4 * s + actS A (7 * b + s) m) else (sp A (4 * s + actS A (7 * b + s) m) - 1) / 4)) := by
    intro b hb
    have hr : 7 * b + s < 14 := by omega
    have ha := actS_le hA (r := 7 * b + s) (m := m) hr
    have hm15 : m &&& 15 = m := by rw [show 15 = 2 ^ 4 - 1 by decide, Nat.and_two_pow_sub_one_eq_mod]; omega
    have e1 : aR h 4 (nI (b * 7 + s)) = some (6 + 6 * (7 * b + s)) := by
      rw [show b * 7 + s = 7 * b + s by omega]
      exact aR_g hG (by decide) (by decide) (by show _ < 14; omega) (hG.2.2.2 4 _ _ (by decide) (gr_rows hr))
    have e2 : gR h (6 + 6 * (7 * b + s)) 5 4 = some (6 + 6 * (7 * b + s) + 5) := gR_g hG (by omega) (gk_row hr) (gr_row hr (by decide))
    have e3 : aI h (6 + 6 * (7 * b + s) + 5) (nI m) = some (nI (actS A (7 * b + s) m)) := by
      rw [aI_g hG (by omega) (gk_rowa hr (by decide) (by decide)) (by rw [gl_rowm hr]; exact hm), (R.2.1 _ hr).2.2 m hm]
    unfold f_X1_whereTo_j26
    rw [gR_g hG (by decide) (by decide) (show gr 1 2 = some 4 from rfl), bS, cl_mul, nI_add, e1, bS, e2, bS, cl_and, hm15, e3, bS, it_neg (by omega), it_lt1 (by omega) (by decide)]
    by_cases c4 : actS A (7 * b + s) m = 4
    · rw [if_neg (by omega), if_pos c4]; rfl
    · rw [if_pos (by omega), if_neg c4, gR_g hG (by decide) (by decide) (show gr 1 0 = some 2 from rfl), bS, cl_mul, nI_add, show s * 4 + actS A (7 * b + s) m = 4 * s + actS A (7 * b + s) m by omega, aI_g hG (by decide) (by decide) (show _ < 28 by omega), bS, R.1.2.2.1 _ (by omega)]
      have hk := hA.2.2.2.1 (4 * s + actS A (7 * b + s) m) (by omega)
      have h6 := hA.2.2.1
      generalize sp A (4 * s + actS A (7 * b + s) m) = c at hk ⊢
      unfold pcI
      by_cases c0 : c = 0
      · rw [if_pos c0, if_pos c0, if_pos rfl]; rfl
      · rw [if_neg c0, if_neg c0]
        by_cases c1 : c < 100
        · rw [if_pos c1, if_neg (nI_ne_m1 (by omega)), it_lt1 (by omega) (by decide), if_pos (by omega), cl_div (by omega) (by decide) (by decide), if_neg (by omega)]
        · rw [if_neg c1, if_neg (nI_ne_m1 (by omega)), it_lt1 (by omega) (by decide), if_neg (by omega), cl_add2, cl_sub (by omega), if_pos (by omega), show 100 + c - 100 = c by omega]
  unfold f_X1_whereTo
  rw [gK_g hG (by decide) (by decide), it_neg (by omega), it_lt1 (by omega) (by decide), if_pos hs, nx_bit hx hs]
  have hb := bit_lt mix s
  unfold goS
  by_cases c : bit mix s = 0
  · rw [show mix / 2 ^ s % 2 = 0 from c, if_pos (by decide), c]; exact hj 0 (by decide)
  · have c1 : bit mix s = 1 := by omega
    rw [show mix / 2 ^ s % 2 = 1 from c1, if_neg (by decide), c1]; exact hj 1 (by decide)

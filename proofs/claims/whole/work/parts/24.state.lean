/-! ===== the whole state, and the class's picture of it ===== -/
/-- a packet: host, mark, switches, end (-1 while under way) -/
abbrev PK : Type := Nat × Nat × List Nat × Int32
/-- a run: round at hand, changed switches, packets, how many wants were broken -/
abbrev RN : Type := Nat × Nat × List PK × Nat
/-- scene, plan, the way told, the run -/
abbrev ZS : Type := SA × List Nat × (List Nat × Int32) × Option RN
def zA (z : ZS) : SA := z.1
def zP (z : ZS) : List Nat := z.2.1
def zT (z : ZS) : List Nat × Int32 := z.2.2.1
def zR2 (z : ZS) : Option RN := z.2.2.2
def undS (ps : List PK) : Nat := (ps.filter (fun p => p.2.2.2 == -1)).length
/-- classes of marks: the least mark alike, and its number -/
def sepS (A : SA) (m q : Nat) : Bool := (List.range 14).any (fun r => (List.range (sc A r)).any (fun i => !(spanB (sd A r i 0) (sd A r i 1) m == spanB (sd A r i 0) (sd A r i 1) q)))
def likS (A : SA) (m : Nat) : Nat := lst (fun q => !(sepS A m q)) m 0
/-- how many classes the first n marks have, and their numbers -/
def clsS (A : SA) : Nat → Nat × (Nat → Nat)
  | 0 => (0, fun _ => 0)
  | m + 1 => if likS A m = m then ((clsS A m).1 + 1, va_up (clsS A m).2 m (clsS A m).1) else ((clsS A m).1, va_up (clsS A m).2 m ((clsS A m).2 (likS A m)))
def Cl (h : MH) (A : SA) : Prop := mm_I h 1 4 = 0 ∨ (mm_I h 1 4 = 1 ∧ mm_I h 1 5 = nI (clsS A 16).1 ∧ ∀ m, m < 16 → mm_I h 5 m = nI ((clsS A 16).2 m))
def isLk (A : SA) (k : Nat) : Bool := decide (1 ≤ sp A k) && decide (sp A k ≤ 28)
def lkS (A : SA) : Nat := cntS (isLk A) 28
/-- links go both ways; hosts stand where they are said to stand -/
def OkL (A : SA) : Prop := (∀ k, k < 28 → isLk A k = true → sp A k - 1 ≠ k ∧ sp A (sp A k - 1) = k + 1) ∧ (∀ i, i < sh A → sp A (sq A i) = 100 + i) ∧ (∀ k, k < 28 → 100 ≤ sp A k → sq A (sp A k - 100) = k)
def OkW (A : SA) : Prop := ∀ i, i < sw A → ((sx A i 0 = nI 0 ∨ sx A i 0 = nI 2 ∨ sx A i 0 = nI 3) → ∃ b, b < sh A ∧ sx A i 4 = nI b)
def RunIs (h : MH) (z : Option RN) : Prop := match z with
  | none => mm_I h 106 4 = 0
  | some (at_, ch, ps, br) => mm_I h 106 4 = 1 ∧ mm_I h 106 5 = nI at_ ∧ mm_I h 106 6 = nI ch ∧ mm_I h 106 7 = nI ps.length ∧ mm_I h 106 8 = nI (undS ps) ∧ mm_I h 106 9 = nI br ∧
      ∀ (k : Nat) (p : PK), ps[k]? = some p → mm_I h (108 + 3 * k) 1 = nI p.1 ∧ mm_I h (108 + 3 * k) 2 = nI p.2.1 ∧ WayIs h (109 + 3 * k) p.2.2.1 p.2.2.2
/-- plans: sets of unlike switches, apart, not empty -/
def unS (l : List Nat) : Nat := l.foldl (fun m s => m ||| s) 0
def OkP (A : SA) (l : List Nat) : Prop := l.length ≤ 7 ∧ (∀ s ∈ l, 1 ≤ s ∧ wi s (unlikeS A) = true) ∧ ∀ i, i < l.length → unS (l.take i) &&& l.getD i 0 = 0
def OkK (A : SA) (p : PK) : Prop := p.1 < sh A ∧ p.2.1 < 16 ∧ 1 ≤ p.2.2.1.length ∧ p.2.2.1.length ≤ 7 ∧ (∀ t ∈ p.2.2.1, t < 7) ∧ p.2.2.1.Nodup ∧ (p.2.2.2 = -1 ∨ ∃ e, e < 13 ∧ p.2.2.2 = nI e)
def OkR (A : SA) (l : List Nat) (z : Option RN) : Prop := match z with
  | none => True
  | some (at_, ch, ps, br) => at_ ≤ l.length ∧ ch < 128 ∧ ps.length ≤ 40 ∧ (∀ p ∈ ps, OkK A p) ∧ br ≤ 10 * ps.length
def OkT (t : List Nat × Int32) : Prop := t.1.length ≤ 7 ∧ (∀ s ∈ t.1, s < 7)
def OkZ (z : ZS) : Prop := OkA (zA z) ∧ OkL (zA z) ∧ OkW (zA z) ∧ OkP (zA z) (zP z) ∧ OkT (zT z) ∧ OkR (zA z) (zP z) (zR2 z)
/-- the class's picture -/
def CX (h : MH) (z : ZS) : Prop := Gr h ∧ JK h (zA z) ∧ Cl h (zA z) ∧ mm_I h 1 8 = nI (lkS (zA z) / 2) ∧ PlanIs h (zP z) ∧ WayIs h 228 (zT z).1 (zT z).2 ∧ RunIs h (zR2 z)
/-- what a changed scene leaves: no plan, no run, nothing known -/
def freshZ (z : ZS) (A : SA) : ZS := (A, [], zT z, none)
def FrS (a : Nat) : Prop := a = 1 ∨ a = 90 ∨ a = 101 ∨ a = 106
theorem RX.si1 {h : MH} {A : SA} {k : Nat} {x : Int32} (h6 : k ≠ 6) (h7 : k ≠ 7) (R : RX h A) : RX (mm_si h 1 k x) A := by
  obtain ⟨⟨n1, n2, n3, n4⟩, r, w1, w2⟩ := R
  refine ⟨⟨by rw [si_o2 (by omega)]; exact n1, by rw [si_o2 (by omega)]; exact n2, fun k hk => by rw [si_o (by decide)]; exact n3 k hk, fun i hi => by rw [si_o (by decide)]; exact n4 i hi⟩, fun q hq => ?_, by rw [si_o (by decide)]; exact w1, fun i hi => ?_⟩
  · obtain ⟨r1, r2, r3⟩ := r q hq
    exact ⟨by rw [si_o (by omega)]; exact r1, fun i hi j hj => by rw [si_o (by omega)]; exact r2 i hi j hj, fun m hm => by rw [si_o (by omega)]; exact r3 m hm⟩
  · obtain ⟨o, p1, p2, p3, p4, p5⟩ := w2 i hi
    exact ⟨o, p1, p2, p3, fun j hj => by rw [si_o (by omega)]; exact p4 j hj, p5⟩
/-- startAfresh over a heap whose scene is A -/
theorem startAfresh_eq {h : MH} {z : ZS} {A : SA} (hG : Gr h) (R : RX h A) (hl : mm_I h 1 8 = nI (lkS A / 2)) (W : WayIs h 228 (zT z).1 (zT z).2) : ∃ h', f_X9_startAfresh h 0 = some h' ∧ CX h' (freshZ z A) ∧ mm_N h' = mm_N h ∧ mm_S h' = mm_S h ∧ ∀ a, ¬ FrS a → mm_I h' a = mm_I h a := by
  have o : Only h (mm_si (mm_si (mm_si (mm_si (mm_si h 1 4 0) 90 8 0) 90 9 0) 101 1 0) 106 4 0) FrS := ((((Only.si (Or.inl rfl)).tr (Only.si (Or.inr (Or.inl rfl)))).tr (Only.si (Or.inr (Or.inl rfl)))).tr (Only.si (Or.inr (Or.inr (Or.inl rfl))))).tr (Only.si (Or.inr (Or.inr (Or.inr rfl))))
  refine ⟨mm_si (mm_si (mm_si (mm_si (mm_si h 1 4 0) 90 8 0) 90 9 0) 101 1 0) 106 4 0, ?_, ?_, rfl, rfl, o.2.2.2.2.2⟩
  · unfold f_X9_startAfresh f_X1_forget f_X0_forget f_X3_clear f_X6_stop
    rw [gK_g hG (by decide) (by decide), gR_g hG (by decide) (by decide) (show gr 0 0 = some 1 from rfl), bS, gK_g hG (by decide) (by decide), pZ_g hG (by decide) (by decide) (Or.inl rfl), bS, bS, gR_g hG.si (by decide) (by decide) (show gr 0 1 = some 90 from rfl), bS, gK_g hG.si (by decide) (by decide), pZ_g hG.si (by decide) (by decide) (Or.inl rfl), bS, pZ_g hG.si.si (by decide) (by decide) (Or.inl rfl), bS, bS, gR_g hG.si.si.si (by decide) (by decide) (show gr 0 2 = some 101 from rfl), bS, gK_g hG.si.si.si (by decide) (by decide), pI_g hG.si.si.si (by decide) (by decide), bS, bS, gR_g hG.si.si.si.si (by decide) (by decide) (show gr 0 4 = some 106 from rfl), bS, gK_g hG.si.si.si.si (by decide) (by decide), pZ_g hG.si.si.si.si (by decide) (by decide) (Or.inl rfl), bS, bS]
  · have R2 : RX (mm_si (mm_si (mm_si h 1 4 0) 90 8 0) 90 9 0) A := RX.si90 (by decide) (RX.si90 (by decide) (RX.si1 (by decide) (by decide) R))
    have R3 : RX (mm_si (mm_si (mm_si (mm_si (mm_si h 1 4 0) 90 8 0) 90 9 0) 101 1 0) 106 4 0) A := RX.only (P := fun a => a = 101 ∨ a = 106) ((Only.si (Or.inl rfl)).tr (Only.si (Or.inr rfl))) (fun a ha => by omega) R2
    refine ⟨hG.si.si.si.si.si, ⟨R3, Or.inl ?_, Or.inl ?_⟩, Or.inl ?_, ?_, ⟨?_, by simp [freshZ, zP], fun i s hi => by simp [freshZ, zP] at hi⟩, ?_, ?_⟩
    · rw [si_o (by decide), si_o (by decide), si_o2 (by decide), si_s]
    · rw [si_o (by decide), si_o (by decide), si_s]
    · rw [si_o (by decide), si_o (by decide), si_o (by decide), si_o (by decide), si_s]
    · rw [si_o (by decide), si_o (by decide), si_o (by decide), si_o (by decide), si_o2 (by decide)]; exact hl
    · rw [si_o (by decide), si_s]; rfl
    · exact W.only o (by unfold FrS; omega) (by unfold FrS; omega)
    · show mm_I _ 106 4 = 0
      rw [si_s]
/-- ports by number -/
theorem hasSwitch_eq {h : MH} {A : SA} (hG : Gr h) (hA : OkA A) (R : RX h A) (x : Int32) : (∃ s, s < sn A ∧ x = nI s ∧ f_X1_hasSwitch h 1 x = some 1) ∨ ((∀ s, s < sn A → x ≠ nI s) ∧ f_X1_hasSwitch h 1 x = some 0) := by
  have h7 := hA.2.1
  unfold f_X1_hasSwitch
  rw [gK_g hG (by decide) (by decide), gI_g hG (by decide) (by decide), bS, R.1.1]
  rcases in_cases x (sn A) (by omega) with (c | c) | ⟨s, hs, rfl⟩
  · right
    exact ⟨fun s hs e => by rw [e] at c; exact nI_pos (by omega) c, by rw [if_pos c]⟩
  · right
    refine ⟨fun s hs e => by rw [e, nI_leI (by omega) (by omega)] at c; omega, ?_⟩
    rw [if_pos c]; split <;> rfl
  · left
    exact ⟨s, hs, rfl, by rw [it_neg (by omega), in_le (by omega) (by omega), if_neg (by omega)]⟩
theorem hasPort_eq {h : MH} {A : SA} (hG : Gr h) (hA : OkA A) (R : RX h A) (x y : Int32) : (∃ s p, s < sn A ∧ p < 4 ∧ x = nI s ∧ y = nI p ∧ f_X1_hasPort h 1 x y = some 1) ∨ ((∀ s p, s < sn A → p < 4 → ¬ (x = nI s ∧ y = nI p)) ∧ f_X1_hasPort h 1 x y = some 0) := by
  unfold f_X1_hasPort
  rw [gK_g hG (by decide) (by decide)]
  rcases hasSwitch_eq hG hA R x with ⟨s, hs, rfl, e⟩ | ⟨n, e⟩
  · rw [e, bS, if_neg (by decide)]
    rcases in_cases y 4 (by decide) with (c | c) | ⟨p, hp, rfl⟩
    · right
      exact ⟨fun s p hs hp z => by rw [z.2] at c; exact nI_pos (by omega) c, by rw [if_pos c]⟩
    · right
      refine ⟨fun s p hs hp z => by rw [z.2, nI_leI (by omega) (by omega)] at c; omega, ?_⟩
      rw [if_pos (show (4 : Int32) ≤ y from c)]; split <;> rfl
    · left
      exact ⟨s, p, hs, hp, rfl, rfl, by rw [it_neg (by omega), it_le2 (by omega) (by decide), if_neg (by omega)]⟩
  · right
    exact ⟨fun s p hs hp z => n s hs z.1, by rw [e, bS, if_pos rfl]⟩
theorem pcI_m1 {A : SA} (hA : OkA A) {k : Nat} (hk : k < 28) : pcI (sp A k) = -1 ↔ sp A k = 0 := by
  have h := hA.2.2.2.1 k hk
  have h6 := hA.2.2.1
  unfold pcI
  by_cases c : sp A k = 0
  · rw [if_pos c]; simp [c]
  · rw [if_neg c]
    by_cases c2 : sp A k < 100
    · rw [if_pos c2]; exact ⟨fun z => absurd z (nI_ne_m1 (by omega)), fun z => absurd z c⟩
    · rw [if_neg c2]; exact ⟨fun z => absurd z (nI_ne_m1 (by omega)), fun z => absurd z c⟩
theorem isFree_eq {h : MH} {A : SA} (hG : Gr h) (hA : OkA A) (R : RX h A) (x y : Int32) : (∃ s p, s < sn A ∧ p < 4 ∧ x = nI s ∧ y = nI p ∧ sp A (4 * s + p) = 0 ∧ f_X1_isFree h 1 x y = some 1) ∨ ((∀ s p, s < sn A → p < 4 → x = nI s → y = nI p → sp A (4 * s + p) ≠ 0) ∧ f_X1_isFree h 1 x y = some 0) := by
  have h7 := hA.2.1
  unfold f_X1_isFree
  rw [gK_g hG (by decide) (by decide)]
  rcases hasPort_eq hG hA R x y with ⟨s, p, hs, hp, rfl, rfl, e⟩ | ⟨n, e⟩
  · rw [e, bS, if_neg (by decide), gR_g hG (by decide) (by decide) (show gr 1 0 = some 2 from rfl), bS, cl_mul, nI_add, show s * 4 + p = 4 * s + p by omega, aI_g hG (by decide) (by decide) (show 4 * s + p < 28 by omega), bS, R.1.2.2.1 _ (by omega)]
    by_cases c : sp A (4 * s + p) = 0
    · left
      exact ⟨s, p, hs, hp, rfl, rfl, c, by rw [if_pos ((pcI_m1 hA (by omega)).mpr c)]⟩
    · right
      refine ⟨fun s' p' hs' hp' e1 e2 => ?_, by rw [if_neg (fun z => c ((pcI_m1 hA (by omega)).mp z))]⟩
      rw [← nI_inj (by omega) (by omega) e1, ← nI_inj (by omega) (by omega) e2]; exact c
  · right
    exact ⟨fun s p hs hp e1 e2 => absurd ⟨e1, e2⟩ (n s p hs hp), by rw [e, bS, if_pos rfl]⟩

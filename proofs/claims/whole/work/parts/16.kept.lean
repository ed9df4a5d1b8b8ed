/-! ===== the judge: the least bad mark, kept wants ===== -/
def bI (b : Nat) : Int32 := if b = 16 then -1 else nI b
def badP (A : SA) (i mix : Nat) (m : Nat) : Bool := spanW A i m && !(metS A i m (wayS A mix (sx A i 3).toNatClampNeg m))
theorem badS_def (A : SA) (i mix : Nat) : badS A i mix = lst (badP A i mix) 16 0 := rfl
theorem badS_le (A : SA) (i mix : Nat) : badS A i mix ≤ 16 := by have := (lst_le (badP A i mix) 16 0).2; rw [badS_def]; omega
theorem leastBad_L {A : SA} (hA : OkA A) {mix i o : Nat} (hx : mix < 128) (hi : i < sw A) (k : MH → Option (Int32 × MH)) :
    ∀ (n f : Nat) (h : MH) (m : Nat), n + m = 16 → n < f → Gr h → RX h A → WantAt h A i o →
      ∃ h', Only h h' Scr ∧ f_X0_leastBadMark_L20 k 90 (nI mix) o f h (nI m) = (if lst (badP A i mix) n m = 16 then k h' else some (nI (lst (badP A i mix) n m), h')) := by
  intro n
  induction n with
  | zero =>
    intro f h m hn hf hG R w
    obtain ⟨f, rfl⟩ : ∃ g, f = g + 1 := ⟨f - 1, by omega⟩
    refine ⟨h, Only.rf, ?_⟩
    rw [f_X0_leastBadMark_L20, it_le2 (by omega) (by decide), if_pos (by omega)]
    rw [show lst (badP A i mix) 0 m = 16 by unfold lst; omega, if_pos rfl]
  | succ n ih =>
    intro f h m hn hf hG R w
    obtain ⟨f, rfl⟩ : ∃ g, f = g + 1 := ⟨f - 1, by omega⟩
    have hm : m < 16 := by omega
    obtain ⟨-, -, -, ⟨a, has, ha⟩, -⟩ := hA.2.2.2.2.2.2.2 i hi
    have h6 := hA.2.2.1
    have hcl : (sx A i 3).toNatClampNeg = a := by rw [ha, nI_clamp (by omega)]
    rw [f_X0_leastBadMark_L20, it_le2 (by omega) (by decide), if_neg (by omega), hasMark_eq hA hi w hm, bS, it_b, cl_add]
    by_cases cs : spanW A i m = true
    · rw [if_pos cs]
      obtain ⟨h1, e1, o1, B1⟩ := traceByBooks_eq hG hA R has hm
      have G1 := o1.Gr hG
      have R1 := RX.only o1 scr_lt R
      have w1 := w.only o1 (fun a ha => (scr_lt a ha).2)
      obtain ⟨h2, e2, o2, q2⟩ := trace_eq G1 hA R1 (w := 98) ⟨isW_mix, by decide⟩ has hx hm
      have o2s : Only h1 h2 Scr := o2.mono (fun a ha => by unfold Two at ha; unfold Scr; omega)
      have G2 := o2.Gr G1
      have R2 := RX.only o2s scr_lt R1
      have w2 := w1.only o2s (fun a ha => (scr_lt a ha).2)
      have B2 : Books h2 A a m := ⟨B1.1.only o2 (by unfold Two; omega) (by unfold Two; omega), B1.2.only o2 (by unfold Two; omega) (by unfold Two; omega)⟩
      have wk := way_ok hA (mix := mix) (m := m) has
      have eM := isMet_eq (m := m) G2 hA hi w2 isW_mix q2 wk.1 wk.2.1 wk.2.2.2 ha has B2
      rw [gI_o w (by decide), bS, ha, e1, bS, gR_g G1 (by decide) (by decide) (show gr 90 0 = some 1 from rfl), bS, gR_g G1 (by decide) (by decide) (show gr 90 6 = some 98 from rfl), bS, gI_o w1 (by decide), bS, ha, e2, bS, gR_g G2 (by decide) (by decide) (show gr 90 6 = some 98 from rfl), bS, gR_g G2 (by decide) (by decide) (show gr 90 4 = some 94 from rfl), bS, gR_g G2 (by decide) (by decide) (show gr 90 5 = some 96 from rfl), bS, eM, bS, it_b]
      by_cases cm : metS A i m (wayS A mix a m) = true
      · have ep : badP A i mix m = false := by unfold badP; rw [hcl, cm]; simp
        obtain ⟨h3, o3, e3⟩ := ih f h2 (m + 1) (by omega) (by omega) G2 R2 w2
        refine ⟨h3, (o1.tr o2s).tr o3, ?_⟩
        rw [if_pos (by exact cm), e3]
        rw [show lst (badP A i mix) (n + 1) m = lst (badP A i mix) n (m + 1) by rw [lst, ep]; rfl]
      · have ep : badP A i mix m = true := by unfold badP; rw [hcl, cs]; simpa using cm
        refine ⟨h2, o1.tr o2s, ?_⟩
        rw [if_neg (by exact cm), show lst (badP A i mix) (n + 1) m = m by rw [lst, ep]; rfl, if_neg (by omega)]
    · have ep : badP A i mix m = false := by unfold badP; simp [cs]
      obtain ⟨h3, o3, e3⟩ := ih f h (m + 1) (by omega) (by omega) hG R w
      refine ⟨h3, o3, ?_⟩
      rw [if_neg cs, e3, show lst (badP A i mix) (n + 1) m = lst (badP A i mix) n (m + 1) by rw [lst, ep]; rfl]
theorem hasWant_eq {h : MH} {A : SA} (hG : Gr h) (hA : OkA A) (R : RX h A) {i : Nat} (hi : i < sw A) : f_X0_hasWant h 90 (nI i) = some 1 := by
  have h10 := hA.2.2.2.2.2.2.1
  unfold f_X0_hasWant
  rw [gK_g hG (by decide) (by decide), it_neg (by omega), gI_g hG (by decide) (by decide), bS, R.2.2.1, in_le (by omega) (by omega), if_neg (by omega)]
theorem leastBad_eq {h : MH} {A : SA} (hG : Gr h) (hA : OkA A) (R : RX h A) {mix i : Nat} (hx : mix < 128) (hi : i < sw A) :
    ∃ h', f_X0_leastBadMark h 90 (nI i) (nI mix) = some (bI (badS A i mix), h') ∧ Only h h' Scr := by
  have h10 := hA.2.2.2.2.2.2.1
  obtain ⟨o, w⟩ := R.2.2.2 i hi
  obtain ⟨h1, o1, e1⟩ := leastBad_L hA hx hi (fun he92 => some ((-1 : Int32), he92)) 16 fuel h 0 rfl (by decide) hG R w
  refine ⟨h1, ?_, o1⟩
  unfold f_X0_leastBadMark
  rw [gK_g hG (by decide) (by decide), hasWant_eq hG hA R hi, bS, if_neg (by decide), gR_g hG (by decide) (by decide) (show gr 90 1 = some 91 from rfl), bS, aR_g hG (by decide) (by decide) (show _ < 10 by omega) w.1, bS, show (0 : Int32) = nI 0 from rfl, e1, badS_def]
  unfold bI
  split <;> rfl
def b2 (b : Bool) : Int32 := if b then 1 else 0
theorem b2_01 (b : Bool) : b2 b = 0 ∨ b2 b = 1 := by cases b <;> simp [b2]
theorem b2_it {α : Type} {b : Bool} {x y : α} : (if b2 b = 0 then x else y) = (if b then y else x) := by cases b <;> simp [b2]
theorem bI_m1 {b : Nat} (hb : b ≤ 16) : bI b = -1 ↔ b = 16 := by
  unfold bI
  constructor
  · intro h
    by_cases c : b = 16
    · exact c
    · rw [if_neg c] at h; exact absurd h (nI_ne_m1 (by omega))
  · intro h; rw [if_pos h]
/-- what the judge may write to learn which wants are kept -/
def KpS (a : Nat) : Prop := a = 92 ∨ Scr a
theorem kps_lt (a : Nat) (h : KpS a) : 91 < a ∧ a < 252 := by unfold KpS Scr at h; omega
theorem findKept_L {A : SA} (hA : OkA A) (k : MH → Option MH) :
    ∀ (n f : Nat) (h : MH) (i : Nat), n + i = sw A → n < f → Gr h → RX h A → (∀ j, j < i → mm_I h 92 j = b2 (keptS A j)) →
      ∃ h', Only h h' KpS ∧ (∀ j, j < sw A → mm_I h' 92 j = b2 (keptS A j)) ∧ f_X0_findKept_L10 k 90 f h (nI i) = k h' := by
  intro n
  have h10 := hA.2.2.2.2.2.2.1
  induction n with
  | zero =>
    intro f h i hn hf hG R hk
    obtain ⟨f, rfl⟩ : ∃ g, f = g + 1 := ⟨f - 1, by omega⟩
    refine ⟨h, Only.rf, fun j hj => hk j (by omega), ?_⟩
    rw [f_X0_findKept_L10, gI_g hG (by decide) (by decide), bS, R.2.2.1, in_le (by omega) (by omega), if_pos (by omega)]
  | succ n ih =>
    intro f h i hn hf hG R hk
    obtain ⟨f, rfl⟩ : ∃ g, f = g + 1 := ⟨f - 1, by omega⟩
    have hi : i < sw A := by omega
    have step : ∀ (h1 : MH), Only h h1 Scr → ∀ x : Bool, x = keptS A i → ∃ h', Only h h' KpS ∧ (∀ j, j < sw A → mm_I h' 92 j = b2 (keptS A j)) ∧ ((sZ h1 92 (nI i) (b2 x)).bind fun h54 => f_X0_findKept_L10 k 90 f h54 (nI i + (1 : Int32))) = k h' := by
      intro h1 o1 x ex
      have G1 := o1.Gr hG
      have R1 := RX.only o1 scr_lt R
      have o1k : Only h h1 KpS := o1.mono (fun a ha => Or.inr ha)
      have o2 : Only h1 (mm_si h1 92 i (b2 x)) KpS := Only.si (Or.inl rfl)
      obtain ⟨h3, o3, q3, e3⟩ := ih f (mm_si h1 92 i (b2 x)) (i + 1) (by omega) (by omega) G1.si (RX.only o2 kps_lt R1) (fun j hj => by
        by_cases ej : j = i
        · subst ej; rw [si_s, ex]
        · rw [si_o2 ej, o1.2.2.2.2.2 92 (by unfold Scr; omega)]; exact hk j (by omega))
      refine ⟨h3, (o1k.tr o2).tr o3, q3, ?_⟩
      rw [sZ_g G1 (by decide) (by decide) (show _ < 10 by omega) (b2_01 x), bS, cl_add]
      exact e3
    obtain ⟨h1, e1, o1⟩ := leastBad_eq hG hA R (mix := 0) (by decide) hi
    have G1 := o1.Gr hG
    have R1 := RX.only o1 scr_lt R
    rw [f_X0_findKept_L10, gI_g hG (by decide) (by decide), bS, R.2.2.1, in_le (by omega) (by omega), if_neg (by omega), gR_g hG (by decide) (by decide) (show gr 90 2 = some 92 from rfl), bS, show (0 : Int32) = nI 0 from rfl, e1, bS]
    by_cases c0 : badS A i 0 = 16
    · rw [if_pos ((bI_m1 (badS_le A i 0)).mpr c0), gR_g G1 (by decide) (by decide) (show gr 90 0 = some 1 from rfl), bS, allNew_eq G1 hA R1, bS]
      obtain ⟨h2, e2, o2⟩ := leastBad_eq G1 hA R1 (all_lt hA) hi
      rw [e2, bS]
      by_cases c1 : badS A i (allS A) = 16
      · rw [if_pos ((bI_m1 (badS_le A i _)).mpr c1)]
        exact step h2 (o1.tr o2) true (by simp [keptS, c0, c1])
      · rw [if_neg (fun z => c1 ((bI_m1 (badS_le A i _)).mp z))]
        exact step h2 (o1.tr o2) false (by simp [keptS, c1])
    · rw [if_neg (fun z => c0 ((bI_m1 (badS_le A i 0)).mp z))]
      exact step h1 o1 false (by simp [keptS, c0])
/-- the judge's own flags: what it says that it knows is so -/
def Kp (h : MH) (A : SA) : Prop := (mm_I h 90 8 = 0 ∨ (mm_I h 90 8 = 1 ∧ ∀ j, j < sw A → mm_I h 92 j = b2 (keptS A j)))
theorem RX.si90 {h : MH} {A : SA} {k : Nat} {x : Int32} (hk : k ≠ 7) (R : RX h A) : RX (mm_si h 90 k x) A := by
  obtain ⟨⟨n1, n2, n3, n4⟩, r, w1, w2⟩ := R
  refine ⟨⟨by rw [si_o (by decide)]; exact n1, by rw [si_o (by decide)]; exact n2, fun k hk => by rw [si_o (by decide)]; exact n3 k hk, fun i hi => by rw [si_o (by decide)]; exact n4 i hi⟩, fun q hq => ?_, by rw [si_o2 (by omega)]; exact w1, fun i hi => ?_⟩
  · obtain ⟨r1, r2, r3⟩ := r q hq
    exact ⟨by rw [si_o (by omega)]; exact r1, fun i hi j hj => by rw [si_o (by omega)]; exact r2 i hi j hj, fun m hm => by rw [si_o (by omega)]; exact r3 m hm⟩
  · obtain ⟨o, p1, p2, p3, p4, p5⟩ := w2 i hi
    exact ⟨o, p1, p2, p3, fun j hj => by rw [si_o (by omega)]; exact p4 j hj, p5⟩
def KpF (a : Nat) : Prop := a = 90 ∨ a = 92 ∨ Scr a
theorem findKept_eq {h : MH} {A : SA} (hG : Gr h) (hA : OkA A) (R : RX h A) (K : Kp h A) :
    ∃ h', f_X0_findKept h 90 = some h' ∧ Only h h' KpF ∧ RX h' A ∧ (∀ k, k ≠ 8 → mm_I h' 90 k = mm_I h 90 k) ∧ mm_I h' 90 8 = 1 ∧ ∀ j, j < sw A → mm_I h' 92 j = b2 (keptS A j) := by
  unfold f_X0_findKept
  rcases K with K | ⟨K1, K2⟩
  · obtain ⟨h1, o1, q1, e1⟩ := findKept_L hA (fun he61 => (pZ he61 90 0 8 (1 : Int32)).bind fun h63 => some h63) (sw A) fuel h 0 (by omega) (by have := hA.2.2.2.2.2.2.1; unfold fuel; omega) hG R (fun j hj => by omega)
    have G1 := o1.Gr hG
    have e90 : mm_I h1 90 = mm_I h 90 := o1.2.2.2.2.2 90 (by unfold KpS Scr; omega)
    refine ⟨mm_si h1 90 8 1, ?_, (o1.mono (fun a ha => Or.inr ha)).tr (Only.si (Or.inl rfl)), RX.si90 (by decide) (RX.only o1 kps_lt R), fun k hk => by rw [si_o2 hk, e90], by rw [si_s], fun j hj => by rw [si_o (by decide)]; exact q1 j hj⟩
    rw [gK_g hG (by decide) (by decide), gI_g hG (by decide) (by decide), bS, K, if_pos rfl, show (0 : Int32) = nI 0 from rfl, e1, pZ_g G1 (by decide) (by decide) (Or.inr rfl), bS]
  · refine ⟨h, ?_, Only.rf, R, fun _ _ => rfl, K1, K2⟩
    rw [gK_g hG (by decide) (by decide), gI_g hG (by decide) (by decide), bS, K1, if_neg (by decide)]
theorem isKept_eq {h : MH} {A : SA} (hG : Gr h) (hA : OkA A) (R : RX h A) (K : Kp h A) {i : Nat} (hi : i < sw A) :
    ∃ h', f_X0_isKept h 90 (nI i) = some (b2 (keptS A i), h') ∧ Only h h' KpF ∧ RX h' A ∧ Kp h' A ∧ (∀ k, k ≠ 8 → mm_I h' 90 k = mm_I h 90 k) := by
  have h10 := hA.2.2.2.2.2.2.1
  obtain ⟨h1, e1, o1, R1, f1, k1, q1⟩ := findKept_eq hG hA R K
  have G1 := o1.Gr hG
  refine ⟨h1, ?_, o1, R1, Or.inr ⟨k1, q1⟩, f1⟩
  unfold f_X0_isKept
  rw [gK_g hG (by decide) (by decide), e1, bS, hasWant_eq G1 hA R1 hi, bS, if_neg (by decide), gR_g G1 (by decide) (by decide) (show gr 90 2 = some 92 from rfl), bS, aZ_g G1 (by decide) (by decide) (show _ < 10 by omega), bS, q1 i hi, b2_it]
  cases keptS A i <;> rfl
theorem firstBroken_L {A : SA} (hA : OkA A) {mix : Nat} (hx : mix < 128) (k : MH → Option (Int32 × MH)) :
    ∀ (n f : Nat) (h : MH) (i : Nat), n + i = sw A → n < f → Gr h → RX h A → (∀ j, j < sw A → mm_I h 92 j = b2 (keptS A j)) →
      ∃ h', Only h h' Scr ∧ f_X0_firstBroken_L6 k 90 (nI mix) f h (nI i) = (if lst (fun i => keptS A i && !(badS A i mix == 16)) n i = sw A then k h' else some (nI (lst (fun i => keptS A i && !(badS A i mix == 16)) n i), h')) := by
  intro n
  have h10 := hA.2.2.2.2.2.2.1
  induction n with
  | zero =>
    intro f h i hn hf hG R hk
    obtain ⟨f, rfl⟩ : ∃ g, f = g + 1 := ⟨f - 1, by omega⟩
    refine ⟨h, Only.rf, ?_⟩
    rw [f_X0_firstBroken_L6, gI_g hG (by decide) (by decide), bS, R.2.2.1, in_le (by omega) (by omega), if_pos (by omega), if_pos (by unfold lst; omega)]
  | succ n ih =>
    intro f h i hn hf hG R hk
    obtain ⟨f, rfl⟩ : ∃ g, f = g + 1 := ⟨f - 1, by omega⟩
    have hi : i < sw A := by omega
    rw [f_X0_firstBroken_L6, gI_g hG (by decide) (by decide), bS, R.2.2.1, in_le (by omega) (by omega), if_neg (by omega), gR_g hG (by decide) (by decide) (show gr 90 2 = some 92 from rfl), bS, aZ_g hG (by decide) (by decide) (show _ < 10 by omega), bS, hk i hi, b2_it, cl_add]
    by_cases ck : keptS A i = true
    · obtain ⟨h1, e1, o1⟩ := leastBad_eq hG hA R hx hi
      have G1 := o1.Gr hG
      have R1 := RX.only o1 scr_lt R
      rw [if_pos ck, e1, bS]
      by_cases c : badS A i mix = 16
      · obtain ⟨h2, o2, e2⟩ := ih f h1 (i + 1) (by omega) (by omega) G1 R1 (fun j hj => by rw [o1.2.2.2.2.2 92 (by unfold Scr; omega)]; exact hk j hj)
        refine ⟨h2, o1.tr o2, ?_⟩
        rw [if_pos ((bI_m1 (badS_le A i _)).mpr c), e2, show lst (fun i => keptS A i && !(badS A i mix == 16)) (n + 1) i = lst (fun i => keptS A i && !(badS A i mix == 16)) n (i + 1) by rw [lst]; simp [c]]
      · refine ⟨h1, o1, ?_⟩
        rw [if_neg (fun z => c ((bI_m1 (badS_le A i _)).mp z)), show lst (fun i => keptS A i && !(badS A i mix == 16)) (n + 1) i = i by rw [lst]; simp [c, ck], if_neg (by omega)]
    · obtain ⟨h2, o2, e2⟩ := ih f h (i + 1) (by omega) (by omega) hG R hk
      refine ⟨h2, o2, ?_⟩
      rw [if_neg ck, e2, show lst (fun i => keptS A i && !(badS A i mix == 16)) (n + 1) i = lst (fun i => keptS A i && !(badS A i mix == 16)) n (i + 1) by rw [lst]; simp [ck]]
def wI (A : SA) (i : Nat) : Int32 := if i = sw A then -1 else nI i
theorem firstBroken_eq {h : MH} {A : SA} (hG : Gr h) (hA : OkA A) (R : RX h A) (K : Kp h A) {mix : Nat} (hx : mix < 128) :
    ∃ h', f_X0_firstBroken h 90 (nI mix) = some (wI A (whyS A mix), h') ∧ Only h h' KpF ∧ RX h' A ∧ Kp h' A ∧ (∀ k, k ≠ 8 → mm_I h' 90 k = mm_I h 90 k) := by
  obtain ⟨h1, e1, o1, R1, f1, k1, q1⟩ := findKept_eq hG hA R K
  have G1 := o1.Gr hG
  obtain ⟨h2, o2, e2⟩ := firstBroken_L hA hx (fun he41 => some ((-1 : Int32), he41)) (sw A) fuel h1 0 (by omega) (by have := hA.2.2.2.2.2.2.1; unfold fuel; omega) G1 R1 q1
  have e90 : mm_I h2 90 = mm_I h1 90 := o2.2.2.2.2.2 90 (by unfold Scr; omega)
  refine ⟨h2, ?_, o1.tr (o2.mono (fun a ha => Or.inr (Or.inr ha))), RX.only o2 scr_lt R1, Or.inr ⟨by rw [e90]; exact k1, fun j hj => by rw [o2.2.2.2.2.2 92 (by unfold Scr; omega)]; exact q1 j hj⟩, fun k hk => by rw [e90]; exact f1 k hk⟩
  unfold f_X0_firstBroken
  rw [gK_g hG (by decide) (by decide), e1, bS, show (0 : Int32) = nI 0 from rfl, e2]
  unfold wI whyS
  split <;> rfl

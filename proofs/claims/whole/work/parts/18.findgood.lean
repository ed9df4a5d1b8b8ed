/-! ===== findGood ===== -/
def GdS (a : Nat) : Prop := a = 93 ∨ Scr a
theorem gds_lt (a : Nat) (h : GdS a) : 91 < a ∧ a < 252 := by unfold GdS Scr at h; omega
def St1 (a : Nat) : Prop := a = 93 ∨ a = 98 ∨ a = 99
theorem st1_lt (a : Nat) (h : St1 a) : 91 < a ∧ a < 252 := by unfold St1 at h; omega
theorem strike_L {A : SA} (hA : OkA A) {i o m a : Nat} (hi : i < sw A) (ha : sx A i 3 = nI a) (has : a < sh A) (hm : m < 16) (k : MH → Option MH) :
    ∀ (n f : Nat) (h : MH) (x : Nat) (g : Nat → Bool), n + x = 128 → n < f → Gr h → RX h A → WantAt h A i o → Books h A a m → (∀ y, y < 128 → mm_I h 93 y = b2 (g y)) →
      ∃ h', f_X0_strikeNotGood_L11 k 90 o (nI m) f h (nI x) = k h' ∧ Only h h' St1 ∧ ∀ y, y < 128 → mm_I h' 93 y = b2 (if x ≤ y then g y && metS A i m (wayS A y a m) else g y) := by
  intro n
  induction n with
  | zero =>
    intro f h x g hn hf hG R w B hg
    obtain ⟨f, rfl⟩ : ∃ g, f = g + 1 := ⟨f - 1, by omega⟩
    refine ⟨h, ?_, Only.rf, fun y hy => by rw [if_neg (by omega)]; exact hg y hy⟩
    rw [f_X0_strikeNotGood_L11, it_le2 (by omega) (by decide), if_pos (by omega)]
  | succ n ih =>
    intro f h x g hn hf hG R w B hg
    obtain ⟨f, rfl⟩ : ∃ g, f = g + 1 := ⟨f - 1, by omega⟩
    rw [f_X0_strikeNotGood_L11, it_le2 (by omega) (by decide), if_neg (by omega), gR_g hG (by decide) (by decide) (show gr 90 3 = some 93 from rfl), bS, aZ_g hG (by decide) (by decide) (show x < 128 by omega), bS, hg x (by omega), b2_it, cl_add]
    by_cases cg : g x = true
    · obtain ⟨h1, e1, o1, q1⟩ := trace_eq hG hA R (w := 98) ⟨isW_mix, by decide⟩ has (show x < 128 by omega) hm
      have o1s : Only h h1 St1 := o1.mono (fun a ha => by unfold Two at ha; unfold St1; omega)
      have G1 := o1.Gr hG
      have R1 := RX.only o1s st1_lt R
      have w1 := w.only o1s (fun a ha => (st1_lt a ha).2)
      have B1 : Books h1 A a m := ⟨B.1.only o1 (by unfold Two; omega) (by unfold Two; omega), B.2.only o1 (by unfold Two; omega) (by unfold Two; omega)⟩
      have wk := way_ok hA (mix := x) (m := m) has
      have eM := isMet_eq (m := m) G1 hA hi w1 isW_mix q1 wk.1 wk.2.1 wk.2.2.2 ha has B1
      have e93 : mm_I h1 93 = mm_I h 93 := o1.2.2.2.2.2 93 (by unfold Two; omega)
      have o2 : Only h1 (mm_si h1 93 x (b2 (metS A i m (wayS A x a m)))) St1 := Only.si (Or.inl rfl)
      have B2 : Books (mm_si h1 93 x (b2 (metS A i m (wayS A x a m)))) A a m := ⟨B1.1.only (P := fun a => a = 93) (Only.si rfl) (by decide) (by decide), B1.2.only (P := fun a => a = 93) (Only.si rfl) (by decide) (by decide)⟩
      obtain ⟨h3, e3, o3, q3⟩ := ih f (mm_si h1 93 x (b2 (metS A i m (wayS A x a m)))) (x + 1) (fun y => if y = x then metS A i m (wayS A x a m) else g y) (by omega) (by omega) G1.si (RX.only o2 st1_lt R1) (w1.only o2 (fun a ha => (st1_lt a ha).2)) B2 (fun y hy => by
        by_cases e : y = x
        · subst e; rw [si_s, if_pos rfl]
        · rw [si_o2 e, e93, if_neg e]; exact hg y hy)
      refine ⟨h3, ?_, (o1s.tr o2).tr o3, fun y hy => ?_⟩
      · rw [if_pos cg, gR_g hG (by decide) (by decide) (show gr 90 0 = some 1 from rfl), bS, gR_g hG (by decide) (by decide) (show gr 90 6 = some 98 from rfl), bS, gI_o w (by decide), bS, ha, e1, bS, gR_g G1 (by decide) (by decide) (show gr 90 3 = some 93 from rfl), bS, gR_g G1 (by decide) (by decide) (show gr 90 6 = some 98 from rfl), bS, gR_g G1 (by decide) (by decide) (show gr 90 4 = some 94 from rfl), bS, gR_g G1 (by decide) (by decide) (show gr 90 5 = some 96 from rfl), bS, eM, bS]
        exact (congrArg (fun z => Option.bind z _) (sZ_g G1 (by decide) (by decide) (show x < 128 by omega) (b2_01 (metS A i m (wayS A x a m))))).trans e3
      · rw [q3 y hy]
        by_cases e : y = x
        · subst e; rw [if_neg (by omega), if_pos rfl, if_pos (Nat.le_refl _), cg]; simp
        · by_cases c : x ≤ y
          · rw [if_pos (by omega), if_pos c, if_neg e]
          · rw [if_neg (by omega), if_neg c, if_neg e]
    · obtain ⟨h3, e3, o3, q3⟩ := ih f h (x + 1) g (by omega) (by omega) hG R w B hg
      refine ⟨h3, by rw [if_neg cg]; exact e3, o3, fun y hy => ?_⟩
      rw [q3 y hy]
      by_cases e : y = x
      · subst e; rw [if_neg (by omega), if_pos (Nat.le_refl _)]; simp [cg]
      · by_cases c : x ≤ y
        · rw [if_pos (by omega), if_pos c]
        · rw [if_neg (by omega), if_neg c]
theorem strike_eq {h : MH} {A : SA} (hG : Gr h) (hA : OkA A) (R : RX h A) {i o m : Nat} (hi : i < sw A) (w : WantAt h A i o) (hm : m < 16) (hsp : spanW A i m = true) {g : Nat → Bool} (hg : ∀ y, y < 128 → mm_I h 93 y = b2 (g y)) :
    ∃ h', f_X0_strikeNotGood h 90 o (nI m) = some h' ∧ Only h h' GdS ∧ ∀ y, y < 128 → mm_I h' 93 y = b2 (g y && !(badP A i y m)) := by
  obtain ⟨-, -, -, ⟨a, has, ha⟩, -⟩ := hA.2.2.2.2.2.2.2 i hi
  have h6 := hA.2.2.1
  have hcl : (sx A i 3).toNatClampNeg = a := by rw [ha, nI_clamp (by omega)]
  obtain ⟨h1, e1, o1, B1⟩ := traceByBooks_eq hG hA R has hm
  have G1 := o1.Gr hG
  obtain ⟨h2, e2, o2, q2⟩ := strike_L hA hi ha has hm (fun he72 => some he72) 128 fuel h1 0 g rfl (by decide) G1 (RX.only o1 scr_lt R) (w.only o1 (fun a ha => (scr_lt a ha).2)) B1 (fun y hy => by rw [o1.2.2.2.2.2 93 (by unfold Scr; omega)]; exact hg y hy)
  refine ⟨h2, ?_, (o1.mono (fun a ha => Or.inr ha)).tr (o2.mono (fun a ha => by unfold St1 at ha; show a = 93 ∨ Scr a; unfold Scr; omega)), fun y hy => ?_⟩
  · unfold f_X0_strikeNotGood
    rw [gK_g hG (by decide) (by decide), gI_o w (by decide), bS, ha, e1, bS]
    exact e2
  · rw [q2 y hy, if_pos (Nat.zero_le _)]
    unfold badP
    rw [hcl, hsp]; simp
theorem fg_L58 {A : SA} (hA : OkA A) {i : Nat} (hi : i < sw A) (k : MH → Option MH) {g0 : Nat → Bool} :
    ∀ (n f : Nat) (h : MH) (m : Nat), n + m = 16 → n < f → Gr h → RX h A → mm_I h 92 i = b2 (keptS A i) → (∀ y, y < 128 → mm_I h 93 y = b2 (g0 y && (!(keptS A i) || accM A i y m))) →
      ∃ h', f_X0_findGood_L58 k 90 (nI i) f h (nI m) = k h' ∧ Only h h' GdS ∧ ∀ y, y < 128 → mm_I h' 93 y = b2 (g0 y && (!(keptS A i) || accM A i y 16)) := by
  intro n
  have h10 := hA.2.2.2.2.2.2.1
  induction n with
  | zero =>
    intro f h m hn hf hG R hk hg
    obtain ⟨f, rfl⟩ : ∃ g, f = g + 1 := ⟨f - 1, by omega⟩
    refine ⟨h, ?_, Only.rf, fun y hy => by rw [hg y hy, show m = 16 by omega]⟩
    rw [f_X0_findGood_L58, it_le2 (by omega) (by decide), if_pos (by omega)]
  | succ n ih =>
    intro f h m hn hf hG R hk hg
    obtain ⟨f, rfl⟩ : ∃ g, f = g + 1 := ⟨f - 1, by omega⟩
    rw [f_X0_findGood_L58, it_le2 (by omega) (by decide), if_neg (by omega), gR_g hG (by decide) (by decide) (show gr 90 2 = some 92 from rfl), bS, aZ_g hG (by decide) (by decide) (show i < 10 by omega), bS, hk, b2_it, cl_add]
    by_cases ck : keptS A i = true
    · obtain ⟨o, w⟩ := R.2.2.2 i hi
      rw [if_pos ck, gR_g hG (by decide) (by decide) (show gr 90 1 = some 91 from rfl), bS, aR_g hG (by decide) (by decide) (show i < 10 by omega) w.1, bS, hasMark_eq hA hi w (by omega), bS, it_b]
      by_cases cs : spanW A i m = true
      · obtain ⟨h1, e1, o1, q1⟩ := strike_eq hG hA R hi w (by omega) cs hg
        obtain ⟨h2, e2, o2, q2⟩ := ih f h1 (m + 1) (by omega) (by omega) (o1.Gr hG) (RX.only o1 gds_lt R) (by rw [o1.2.2.2.2.2 92 (by unfold GdS Scr; omega)]; exact hk) (fun y hy => by rw [q1 y hy, accM, ck]; simp [Bool.and_assoc])
        refine ⟨h2, ?_, o1.tr o2, q2⟩
        rw [if_pos cs, bS, aR_g hG (by decide) (by decide) (show i < 10 by omega) w.1, bS, e1, bS]
        exact e2
      · obtain ⟨h2, e2, o2, q2⟩ := ih f h (m + 1) (by omega) (by omega) hG R hk (fun y hy => by rw [hg y hy, accM]; simp [badP, cs])
        exact ⟨h2, by rw [if_neg cs]; exact e2, o2, q2⟩
    · obtain ⟨h2, e2, o2, q2⟩ := ih f h (m + 1) (by omega) (by omega) hG R hk (fun y hy => by rw [hg y hy]; simp [ck])
      exact ⟨h2, by rw [if_neg ck]; exact e2, o2, q2⟩
theorem fg_L48 {A : SA} (hA : OkA A) (k : MH → Option MH) {g0 : Nat → Bool} :
    ∀ (n f : Nat) (h : MH) (i : Nat), n + i = sw A → n < f → Gr h → RX h A → (∀ j, j < sw A → mm_I h 92 j = b2 (keptS A j)) → (∀ y, y < 128 → mm_I h 93 y = b2 (g0 y && accI A y i)) →
      ∃ h', f_X0_findGood_L48 k 90 f h (nI i) = k h' ∧ Only h h' GdS ∧ ∀ y, y < 128 → mm_I h' 93 y = b2 (g0 y && accI A y (sw A)) := by
  intro n
  have h10 := hA.2.2.2.2.2.2.1
  induction n with
  | zero =>
    intro f h i hn hf hG R hk hg
    obtain ⟨f, rfl⟩ : ∃ g, f = g + 1 := ⟨f - 1, by omega⟩
    refine ⟨h, ?_, Only.rf, fun y hy => by rw [hg y hy, show i = sw A by omega]⟩
    rw [f_X0_findGood_L48, gI_g hG (by decide) (by decide), bS, R.2.2.1, in_le (by omega) (by omega), if_pos (by omega)]
  | succ n ih =>
    intro f h i hn hf hG R hk hg
    obtain ⟨f, rfl⟩ : ∃ g, f = g + 1 := ⟨f - 1, by omega⟩
    obtain ⟨h1, e1, o1, q1⟩ := fg_L58 hA (show i < sw A by omega) (fun he103 => f_X0_findGood_L48 k 90 f he103 (nI i + (1 : Int32))) (g0 := fun y => g0 y && accI A y i) 16 fuel h 0 rfl (by decide) hG R (hk i (by omega)) (fun y hy => by rw [hg y hy, accM]; simp)
    obtain ⟨h2, e2, o2, q2⟩ := ih f h1 (i + 1) (by omega) (by omega) (o1.Gr hG) (RX.only o1 gds_lt R) (fun j hj => by rw [o1.2.2.2.2.2 92 (by unfold GdS Scr; omega)]; exact hk j hj) (fun y hy => by rw [q1 y hy, accI, Bool.and_assoc])
    refine ⟨h2, ?_, o1.tr o2, q2⟩
    rw [f_X0_findGood_L48, gI_g hG (by decide) (by decide), bS, R.2.2.1, in_le (by omega) (by omega), if_neg (by omega), show (0 : Int32) = nI 0 from rfl, e1, cl_add]
    exact e2
theorem fg_L22 {A : SA} (hA : OkA A) (k : MH → Option MH) :
    ∀ (n f : Nat) (h : MH) (x : Nat), n + x = 128 → n < f → Gr h → RX h A → (∀ y, y < x → mm_I h 93 y = b2 (wi y (unlikeS A))) →
      ∃ h', f_X0_findGood_L22 k 90 (nI (unlikeS A)) f h (nI x) = k h' ∧ Only h h' (fun a => a = 93) ∧ ∀ y, y < 128 → mm_I h' 93 y = b2 (wi y (unlikeS A)) := by
  intro n
  induction n with
  | zero =>
    intro f h x hn hf hG R hg
    obtain ⟨f, rfl⟩ : ∃ g, f = g + 1 := ⟨f - 1, by omega⟩
    refine ⟨h, ?_, Only.rf, fun y hy => hg y (by omega)⟩
    rw [f_X0_findGood_L22, it_le2 (by omega) (by decide), if_pos (by omega)]
  | succ n ih =>
    intro f h x hn hf hG R hg
    obtain ⟨f, rfl⟩ : ∃ g, f = g + 1 := ⟨f - 1, by omega⟩
    have o1 : Only h (mm_si h 93 x (b2 (wi x (unlikeS A)))) (fun a => a = 93) := Only.si rfl
    obtain ⟨h2, e2, o2, q2⟩ := ih f (mm_si h 93 x (b2 (wi x (unlikeS A)))) (x + 1) (by omega) (by omega) hG.si (RX.only o1 (fun a ha => by omega) R) (fun y hy => by
      by_cases e : y = x
      · subst e; rw [si_s]
      · rw [si_o2 e]; exact hg y (by omega))
    refine ⟨h2, ?_, o1.tr o2, q2⟩
    rw [f_X0_findGood_L22, it_le2 (by omega) (by decide), if_neg (by omega), gR_g hG (by decide) (by decide) (show gr 90 3 = some 93 from rfl), bS, isWithin_eq (by omega) (unlike_lt hA), bS, sZ_g hG (by decide) (by decide) (show x < 128 by omega) (b2_01 _), bS, cl_add]
    exact e2
def gdS (A : SA) (y : Nat) : Bool := wi y (unlikeS A) && goodS A y
def Gd (h : MH) (A : SA) : Prop := mm_I h 90 9 = 0 ∨ (mm_I h 90 9 = 1 ∧ ∀ y, y < 128 → mm_I h 93 y = b2 (gdS A y))
def GdF (a : Nat) : Prop := a = 90 ∨ a = 92 ∨ a = 93 ∨ Scr a
theorem findGood_eq {h : MH} {A : SA} (hG : Gr h) (hA : OkA A) (R : RX h A) (K : Kp h A) (D : Gd h A) :
    ∃ h', f_X0_findGood h 90 = some h' ∧ Only h h' GdF ∧ RX h' A ∧ Kp h' A ∧ (∀ k, k ≠ 8 → k ≠ 9 → mm_I h' 90 k = mm_I h 90 k) ∧ mm_I h' 90 9 = 1 ∧ ∀ y, y < 128 → mm_I h' 93 y = b2 (gdS A y) := by
  unfold f_X0_findGood
  rcases D with D | ⟨D1, D2⟩
  · obtain ⟨h1, e1, o1, R1, f1, k1, q1⟩ := findKept_eq hG hA R K
    have G1 := o1.Gr hG
    obtain ⟨h2, e2, o2, q2⟩ := fg_L22 hA (fun he46 => f_X0_findGood_L48 (fun he109 => (pZ he109 90 0 9 (1 : Int32)).bind fun h111 => some h111) 90 fuel he46 (0 : Int32)) 128 fuel h1 0 rfl (by decide) G1 R1 (fun y hy => by omega)
    have o2g : Only h1 h2 GdS := o2.mono (fun a ha => Or.inl ha)
    have G2 := o2.Gr G1
    have R2 := RX.only o2g gds_lt R1
    obtain ⟨h3, e3, o3, q3⟩ := fg_L48 hA (fun he109 => (pZ he109 90 0 9 (1 : Int32)).bind fun h111 => some h111) (g0 := fun y => wi y (unlikeS A)) (sw A) fuel h2 0 (by omega) (by have := hA.2.2.2.2.2.2.1; unfold fuel; omega) G2 R2 (fun j hj => by rw [o2.2.2.2.2.2 92 (by decide)]; exact q1 j hj) (fun y hy => by rw [q2 y hy, accI]; simp)
    have G3 := o3.Gr G2
    have e90 : mm_I h3 90 = mm_I h1 90 := (o3.2.2.2.2.2 90 (by unfold GdS Scr; omega)).trans (o2.2.2.2.2.2 90 (by decide))
    have e92 : mm_I h3 92 = mm_I h1 92 := (o3.2.2.2.2.2 92 (by unfold GdS Scr; omega)).trans (o2.2.2.2.2.2 92 (by decide))
    refine ⟨mm_si h3 90 9 1, ?_, ((((o1.mono (fun a ha => by unfold KpF Scr at ha; show a = 90 ∨ a = 92 ∨ a = 93 ∨ Scr a; unfold Scr; omega)).tr (o2.mono (fun a ha => Or.inr (Or.inr (Or.inl ha))))).tr (o3.mono (fun a ha => by unfold GdS Scr at ha; show a = 90 ∨ a = 92 ∨ a = 93 ∨ Scr a; unfold Scr; omega)))).tr (Only.si (Or.inl rfl)), RX.si90 (by decide) (RX.only o3 gds_lt R2), Or.inr ⟨by rw [si_o2 (by decide), e90]; exact k1, fun j hj => by rw [si_o (by decide), e92]; exact q1 j hj⟩, fun k hk8 hk9 => by rw [si_o2 hk9, e90]; exact f1 k hk8, by rw [si_s], fun y hy => by rw [si_o (by decide), q3 y hy, accI_good]; rfl⟩
    rw [gK_g hG (by decide) (by decide), gI_g hG (by decide) (by decide), bS, D, if_pos rfl, e1, bS, gR_g G1 (by decide) (by decide) (show gr 90 0 = some 1 from rfl), bS, unlikeX_eq G1 hA R1, bS, show (0 : Int32) = nI 0 from rfl]
    refine e2.trans ?_
    refine e3.trans ?_
    rw [pZ_g G3 (by decide) (by decide) (Or.inr rfl), bS]
  · refine ⟨h, ?_, Only.rf, R, K, fun _ _ _ => rfl, D1, D2⟩
    rw [gK_g hG (by decide) (by decide), gI_g hG (by decide) (by decide), bS, D1, if_neg (by decide)]
theorem isGood_eq {h : MH} {A : SA} (hG : Gr h) {y : Nat} (hy : y < 128) (D2 : ∀ y, y < 128 → mm_I h 93 y = b2 (gdS A y)) : f_X0_isGood h 90 (nI y) = some (b2 (gdS A y)) := by
  unfold f_X0_isGood
  rw [gK_g hG (by decide) (by decide), it_neg (by omega), it_le2 (by omega) (by decide), if_neg (by omega), gR_g hG (by decide) (by decide) (show gr 90 3 = some 93 from rfl), bS, aZ_g hG (by decide) (by decide) (show y < 128 by omega), bS, D2 y hy, b2_it]
  cases gdS A y <;> rfl

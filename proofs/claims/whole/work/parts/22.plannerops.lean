/-! ===== the planner's calls ===== -/
def JK (h : MH) (A : SA) : Prop := RX h A ∧ Kp h A ∧ Gd h A
/-- cells beyond the judge's -/
theorem JK.only {h h' : MH} {A : SA} {P : Nat → Prop} (o : Only h h' P) (hp : ∀ a, P a → 99 < a ∧ a < 252) (J : JK h A) : JK h' A := by
  obtain ⟨R, K, D⟩ := J
  have e90 := o.2.2.2.2.2 90 (fun z => by have := hp 90 z; omega)
  have e92 := o.2.2.2.2.2 92 (fun z => by have := hp 92 z; omega)
  have e93 := o.2.2.2.2.2 93 (fun z => by have := hp 93 z; omega)
  refine ⟨RX.only o (fun a ha => by have := hp a ha; omega) R, ?_, ?_⟩
  · unfold Kp; rw [e90, e92]; exact K
  · unfold Gd; rw [e90, e93]; exact D
def PnS (a : Nat) : Prop := a = 90 ∨ a = 92 ∨ a = 93 ∨ Scr a ∨ a = 104 ∨ a = 105
theorem findGood_J {h : MH} {A : SA} (hG : Gr h) (hA : OkA A) (J : JK h A) : ∃ h', f_X0_findGood h 90 = some h' ∧ Only h h' GdF ∧ Gr h' ∧ JK h' A ∧ Good h' A := by
  obtain ⟨h1, e1, o1, R1, K1, -, d1, q1⟩ := findGood_eq hG hA J.1 J.2.1 J.2.2
  exact ⟨h1, e1, o1, o1.Gr hG, ⟨R1, K1, Or.inr ⟨d1, q1⟩⟩, q1⟩
theorem PlanIs.only {h h' : MH} {l : List Nat} {P : Nat → Prop} (o : Only h h' P) (h1 : ¬ P 101) (h2 : ¬ P 102) (p : PlanIs h l) : PlanIs h' l := by
  have e1 := o.2.2.2.2.2 101 h1
  have e2 := o.2.2.2.2.2 102 h2
  exact ⟨by rw [e1]; exact p.1, p.2.1, fun i s hi => by rw [e2]; exact p.2.2 i s hi⟩
theorem lt1000 {t : Nat} (ht : t = 99 ∨ t ≤ 7) : (cT t < (1000 : Int32)) ↔ t < 99 := by
  unfold cT
  rcases ht with rfl | ht
  · rw [if_pos rfl]; decide
  · rw [if_neg (by omega)]
    exact ⟨fun _ => by omega, fun _ => (nI_ltI (show t < 2 ^ 31 by omega) (show 1000 < 2 ^ 31 by decide)).mpr (by omega)⟩
theorem makeLeast_eq {h : MH} {A : SA} {l : List Nat} (hG : Gr h) (hA : OkA A) (J : JK h A) (P : PlanIs h l) :
    ∃ h', f_X4_makeLeast h 103 101 = some (if TS A 0 < 99 then 1 else 0, h') ∧ Only h h' (fun a => PnS a ∨ PlS a) ∧ JK h' A ∧ PlanIs h' (if TS A 0 < 99 then leastS A else l) := by
  have hu := unlike_lt hA
  have w0 : wi 0 (unlikeS A) = true := by simp [wi]
  obtain ⟨h1, e1, o1, G1, J1, D1⟩ := findGood_J hG hA J
  obtain ⟨h2, e2, o2, q2⟩ := ml_L17 hA (fun he54 => (gR he54 103 4 2).bind fun b55 => (aI he54 b55 (0 : Int32)).bind fun v59 => (if v59 < (1000 : Int32) then ((f_X3_clear he54 101).bind fun h69 => f_X4_makeLeast_L77 (fun he114 => some ((1 : Int32), he114)) 103 101 (nI (unlikeS A)) fuel h69 (0 : Int32) (0 : Int32)) else (some ((0 : Int32), he54)))) (unlikeS A) fuel h1 hu (by unfold fuel; omega) G1 D1 (fun y hy hw hxy => by have := wi_le hw; omega)
  have G2 := o2.Gr G1
  have J2 := JK.only o2 (fun a ha => by omega) J1
  have D2 : Good h2 A := fun y hy => by rw [o2.2.2.2.2.2 93 (by decide)]; exact D1 y hy
  have hsm := TS_small hA (show 0 < 128 by decide)
  have o12 : Only h h2 (fun a => PnS a ∨ PlS a) := (o1.mono (fun a ha => by unfold GdF Scr at ha; left; unfold PnS Scr; omega)).tr (o2.mono (fun a ha => by left; unfold PnS; omega))
  have base : f_X4_makeLeast h 103 101 = (if cT (TS A 0) < (1000 : Int32) then ((f_X3_clear h2 101).bind fun h69 => f_X4_makeLeast_L77 (fun he114 => some ((1 : Int32), he114)) 103 101 (nI (unlikeS A)) fuel h69 (0 : Int32) (0 : Int32)) else (some ((0 : Int32), h2))) := by
    unfold f_X4_makeLeast
    rw [gK_g hG (by decide) (by decide), gR_g hG (by decide) (by decide) (show gr 103 1 = some 90 from rfl), bS, e1, bS, gR_g G1 (by decide) (by decide) (show gr 103 0 = some 1 from rfl), bS, unlikeX_eq G1 hA J1.1, bS]
    refine e2.trans ?_
    rw [gR_g G2 (by decide) (by decide) (show gr 103 2 = some 104 from rfl), bS, aI_lit, aI_g G2 (by decide) (by decide) (show 0 < 128 by decide), bS, q2 0 (by decide) w0]
  by_cases c : TS A 0 < 99
  · obtain ⟨h3, e3, o3, P3⟩ := clearP_eq G2
    obtain ⟨h4, e4, o4, P4⟩ := ml_L77 hA (fun he114 => some ((1 : Int32), he114)) 7 fuel h3 [] 0 rfl (by decide) (o3.Gr G2) (fun y hy => by rw [o3.2.2.2.2.2 93 (by unfold PlS; omega)]; exact D2 y hy) (fun y hy hw => by rw [o3.2.2.2.2.2 104 (by unfold PlS; omega)]; exact q2 y hy hw) P3 (by decide) w0 (by omega)
    refine ⟨h4, ?_, o12.tr ((o3.tr o4).mono (fun a ha => Or.inr ha)), JK.only (o3.tr o4) (fun a ha => by unfold PlS at ha; omega) J2, ?_⟩
    · rw [base, if_pos ((lt1000 hsm).mpr c), if_pos c, e3, bS]
      exact e4
    · rw [if_pos c]; simpa [leastS] using P4
  · refine ⟨h2, ?_, o12, J2, ?_⟩
    · rw [base, if_neg (fun z => c ((lt1000 hsm).mp z)), if_neg c]
    · rw [if_neg c]
      exact (P.only o1 (by unfold GdF Scr; omega) (by unfold GdF Scr; omega)).only o2 (by decide) (by decide)
theorem countOrders_eq {h : MH} {A : SA} (hG : Gr h) (hA : OkA A) (J : JK h A) :
    ∃ h', f_X4_countOrders h 103 = some (nI (OS A 0), h') ∧ Only h h' PnS ∧ JK h' A := by
  obtain ⟨h1, e1, o1, G1, J1, D1⟩ := findGood_J hG hA J
  obtain ⟨h2, e2, o2, q2⟩ := fo_eq G1 hA D1
  refine ⟨h2, ?_, (o1.mono (fun a ha => by unfold GdF Scr at ha; unfold PnS Scr; omega)).tr (o2.mono (fun a ha => by unfold PnS; omega)), JK.only o2 (fun a ha => by omega) J1⟩
  unfold f_X4_countOrders
  rw [gK_g hG (by decide) (by decide), gR_g hG (by decide) (by decide) (show gr 103 1 = some 90 from rfl), bS, e1, bS, gR_g G1 (by decide) (by decide) (show gr 103 0 = some 1 from rfl), bS, unlikeX_eq G1 hA J1.1, bS, e2, bS]
theorem makeOrder_eq {h : MH} {A : SA} {l : List Nat} (hG : Gr h) (hA : OkA A) (J : JK h A) (P : PlanIs h l) (x : Int32) :
    ∃ h', Only h h' (fun a => PnS a ∨ PlS a) ∧ JK h' A ∧ ((∃ k, k < OS A 0 ∧ x = nI k ∧ f_X4_makeOrder h 103 101 x = some (1, h') ∧ PlanIs h' (ordS A 7 0 k)) ∨ ((∀ k, k < OS A 0 → x ≠ nI k) ∧ f_X4_makeOrder h 103 101 x = some (0, h') ∧ PlanIs h' l)) := by
  have w0 : wi 0 (unlikeS A) = true := by simp [wi]
  have hos := OS_lt hA (show 0 < 128 by decide)
  obtain ⟨h1, e1, o1, G1, J1, D1⟩ := findGood_J hG hA J
  have o1p : Only h h1 (fun a => PnS a ∨ PlS a) := o1.mono (fun a ha => by unfold GdF Scr at ha; left; unfold PnS Scr; omega)
  have P1 := P.only o1 (by unfold GdF Scr; omega) (by unfold GdF Scr; omega)
  have base : f_X4_makeOrder h 103 101 x = (if x < 0 then (some ((0 : Int32), h1)) else ((f_X4_findOrderings h1 103 (nI (unlikeS A))).bind fun r22 => (if x < r22.1 then ((f_X3_clear r22.2 101).bind fun h31 => f_X4_makeOrder_L43 (fun he125 => some ((1 : Int32), he125)) 103 101 (nI (unlikeS A)) fuel h31 (0 : Int32) x (0 : Int32)) else (some ((0 : Int32), r22.2))))) := by
    unfold f_X4_makeOrder
    rw [gK_g hG (by decide) (by decide), gR_g hG (by decide) (by decide) (show gr 103 1 = some 90 from rfl), bS, e1, bS, gR_g G1 (by decide) (by decide) (show gr 103 0 = some 1 from rfl), bS, unlikeX_eq G1 hA J1.1, bS]
  by_cases c : x < 0
  · refine ⟨h1, o1p, J1, Or.inr ⟨fun k hk z => ?_, by rw [base, if_pos c], P1⟩⟩
    rw [z] at c; exact nI_pos (by omega) c
  · obtain ⟨h2, e2, o2, q2⟩ := fo_eq G1 hA D1
    have G2 := o2.Gr G1
    have J2 := JK.only o2 (fun a ha => by omega) J1
    have P2 := P1.only o2 (by decide) (by decide)
    have o12 := o1p.tr (o2.mono (fun a ha => by left; unfold PnS; omega) : Only h1 h2 (fun a => PnS a ∨ PlS a))
    obtain ⟨k, hk, rfl⟩ := nI_of c
    by_cases ck : k < OS A 0
    · obtain ⟨h3, e3, o3, P3⟩ := clearP_eq G2
      obtain ⟨h4, e4, o4, P4⟩ := mo_L43 hA (fun he125 => some ((1 : Int32), he125)) 7 fuel h3 [] 0 k rfl (by decide) (o3.Gr G2) (fun y hy hw hx => by rw [o3.2.2.2.2.2 105 (by unfold PlS; omega)]; exact q2 y hy hw hx) P3 (by decide) w0 (by simp) ck
      refine ⟨h4, o12.tr ((o3.tr o4).mono (fun a ha => Or.inr ha)), JK.only (o3.tr o4) (fun a ha => by unfold PlS at ha; omega) J2, Or.inl ⟨k, ck, rfl, ?_, by simpa using P4⟩⟩
      rw [base, if_neg c, e2, bS, in_lt hk (by omega), if_pos ck, e3, bS]
      exact e4
    · refine ⟨h2, o12, J2, Or.inr ⟨fun k' hk' z => ck (by rw [nI_inj hk (by omega) z]; exact hk'), ?_, P2⟩⟩
      rw [base, if_neg c, e2, bS, in_lt hk (by omega), if_neg ck]
/-- how many good mixtures there are -/
def cntS (p : Nat → Bool) : Nat → Nat
  | 0 => 0
  | n + 1 => cntS p n + (if p n then 1 else 0)
theorem cnt_le (p : Nat → Bool) : ∀ n, cntS p n ≤ n
  | 0 => Nat.le_refl _
  | n + 1 => by have := cnt_le p n; rw [cntS]; split <;> omega
theorem cg_L {h : MH} {A : SA} (hG : Gr h) (D : Good h A) (k : Int32 → Option (Int32 × MH)) :
    ∀ (n f x : Nat), n + x = 128 → n < f → f_X4_countGood_L11 k h 103 f (nI (cntS (gdS A) x)) (nI x) = k (nI (cntS (gdS A) 128))
  | 0, f, x, hn, hf => by
    obtain ⟨f, rfl⟩ : ∃ g, f = g + 1 := ⟨f - 1, by omega⟩
    rw [f_X4_countGood_L11, it_le2 (by omega) (by decide), if_pos (by omega), show x = 128 by omega]
  | n + 1, f, x, hn, hf => by
    obtain ⟨f, rfl⟩ : ∃ g, f = g + 1 := ⟨f - 1, by omega⟩
    have ih := cg_L hG D k n f (x + 1) (by omega) (by omega)
    rw [f_X4_countGood_L11, it_le2 (by omega) (by decide), if_neg (by omega), gR_g hG (by decide) (by decide) (show gr 103 1 = some 90 from rfl), bS, isGood_eq hG (by omega) D, bS, b2_it, cl_add, cl_add]
    rw [cntS] at ih
    split
    · rename_i c; rw [if_pos c] at ih; exact ih
    · rename_i c; rw [if_neg c] at ih; exact ih
theorem countGood_eq {h : MH} {A : SA} (hG : Gr h) (hA : OkA A) (J : JK h A) :
    ∃ h', f_X4_countGood h 103 = some (nI (cntS (gdS A) 128), h') ∧ Only h h' PnS ∧ JK h' A := by
  obtain ⟨h1, e1, o1, G1, J1, D1⟩ := findGood_J hG hA J
  refine ⟨h1, ?_, o1.mono (fun a ha => by unfold GdF Scr at ha; unfold PnS Scr; omega), J1⟩
  unfold f_X4_countGood
  rw [gK_g hG (by decide) (by decide), gR_g hG (by decide) (by decide) (show gr 103 1 = some 90 from rfl), bS, e1, bS]
  exact cg_L G1 D1 (fun x1e38 => some (x1e38, h1)) 128 fuel 0 rfl (by decide)
theorem whyNot_eq {h : MH} {A : SA} (hG : Gr h) (hA : OkA A) (J : JK h A) {ahead set : Nat} (ha : ahead < 128) (hs : set < 128) (wa : wi ahead (unlikeS A) = true) (ws : wi set (unlikeS A) = true) :
    ∃ h', f_X4_whyNotTaken h 103 (nI ahead) (nI set) = some (agI A ahead set, h') ∧ Only h h' PnS ∧ JK h' A := by
  obtain ⟨h1, e1, o1, G1, J1, D1⟩ := findGood_J hG hA J
  refine ⟨h1, ?_, o1.mono (fun a ha => by unfold GdF Scr at ha; unfold PnS Scr; omega), J1⟩
  unfold f_X4_whyNotTaken
  rw [gK_g hG (by decide) (by decide), gR_g hG (by decide) (by decide) (show gr 103 1 = some 90 from rfl), bS, e1, bS, lng_eq G1 hA D1 ha hs wa ws, bS]

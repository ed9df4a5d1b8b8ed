/-! ===== the class's hops ===== -/
def brkP (A : SA) (x m : Nat) (w : List Nat × Nat) (i : Nat) : Bool := (keptS A i && (sx A i 3 == nI x && spanW A i m)) && !(metS A i m w)
theorem brk_def (A : SA) (x m : Nat) (w : List Nat × Nat) : brkS A x m w = cntS (brkP A x m w) (sw A) := rfl
theorem it_b1' {α : Type} {c : Prop} [Decidable c] {x y : α} : (if (if c then (1 : Int32) else 0) = 0 then x else y) = (if c then y else x) := by by_cases h : c <;> simp [h]
theorem it_b1 {α : Type} {b : Bool} {x y : α} : (if (if b then (1 : Int32) else 0) = 0 then x else y) = (if b then y else x) := by cases b <;> simp
theorem cb_L {h : MH} {A : SA} {x m w e : Nat} {p : List Nat} (hG : Gr h) (hA : OkA A) (R : RX h A) (hk : ∀ j, j < sw A → mm_I h 92 j = b2 (keptS A j)) (hx : x < sh A) (hm : m < 16) (B : Books h A x m) (hw : IsW w) (wy : WayIs h w p (nI e)) (hp : ∀ t ∈ p, t < 7) (h7 : p.length ≤ 7) (he : e < 13) (k : Int32 → Option (Int32 × MH)) :
    ∀ (n f i : Nat), n + i = sw A → n < f → f_X0_countBroken_L16 k h 90 (nI x) (nI m) w f (nI (cntS (brkP A x m (p, e)) i)) (nI i) = k (nI (cntS (brkP A x m (p, e)) (sw A)))
  | 0, f, i, hn, hf => by
    have h10 := hA.2.2.2.2.2.2.1
    obtain ⟨f, rfl⟩ : ∃ g, f = g + 1 := ⟨f - 1, by omega⟩
    rw [f_X0_countBroken_L16, gI_g hG (by decide) (by decide), bS, R.2.2.1, in_le (by omega) (by omega), if_pos (by omega), show i = sw A by omega]
  | n + 1, f, i, hn, hf => by
    have h10 := hA.2.2.2.2.2.2.1
    obtain ⟨f, rfl⟩ : ∃ g, f = g + 1 := ⟨f - 1, by omega⟩
    have hi : i < sw A := by omega
    obtain ⟨o, wt⟩ := R.2.2.2 i hi
    have wt : WantAt h A i o := wt
    have ih := cb_L hG hA R hk hx hm B hw wy hp h7 he k n f (i + 1) (by omega) (by omega)
    rw [f_X0_countBroken_L16, gI_g hG (by decide) (by decide), bS, R.2.2.1, in_le (by omega) (by omega), if_neg (by omega), gR_g hG (by decide) (by decide) (show gr 90 1 = some 91 from rfl), bS, aR_g hG (by decide) (by decide) (show i < 10 by omega) wt.1, bS, gR_g hG (by decide) (by decide) (show gr 90 2 = some 92 from rfl), bS, aZ_g hG (by decide) (by decide) (show i < 10 by omega), bS, hk i hi, b2_it, cl_add, cl_add]
    rw [cntS] at ih
    by_cases c1 : keptS A i = true
    · rw [if_pos c1, gI_o wt (by decide), bS]
      by_cases c2 : sx A i 3 = nI x
      · rw [if_pos c2, hasMark_eq hA hi wt hm, bS, it_b1]
        by_cases c3 : spanW A i m = true
        · rw [if_pos c3, gR_g hG (by decide) (by decide) (show gr 90 4 = some 94 from rfl), bS, gR_g hG (by decide) (by decide) (show gr 90 5 = some 96 from rfl), bS, isMet_eq hG hA hi wt hw wy hp h7 he c2 hx B, bS, it_b1]
          by_cases c4 : metS A i m (p, e) = true
          · rw [if_pos c4]
            rw [if_neg (by simp [brkP, c4])] at ih
            exact ih
          · rw [if_neg c4]
            rw [if_pos (by simp [brkP, c1, c2, c3, c4])] at ih
            exact ih
        · rw [if_neg c3]
          rw [if_neg (by simp [brkP, c3])] at ih
          exact ih
      · rw [if_neg c2]
        rw [if_neg (by simp [brkP, c2])] at ih
        exact ih
    · rw [if_neg c1]
      rw [if_neg (by simp [brkP, c1])] at ih
      exact ih
theorem countBroken_eq {h : MH} {A : SA} {x m w e : Nat} {p : List Nat} (hG : Gr h) (hA : OkA A) (J : JK h A) (hx : x < sh A) (hm : m < 16) (hw : IsW w) (hw2 : 100 < w) (wy : WayIs h w p (nI e)) (hp : ∀ t ∈ p, t < 7) (h7 : p.length ≤ 7) (he : e < 13) :
    ∃ h', f_X0_countBroken h 90 (nI x) (nI m) w = some (nI (brkS A x m (p, e)), h') ∧ Only h h' KpF ∧ JK h' A := by
  obtain ⟨h1, e1, o1, R1, f1, k1, q1⟩ := findKept_eq hG hA J.1 J.2.1
  have G1 := o1.Gr hG
  have J1 := J.kp o1 R1 (Or.inr ⟨k1, q1⟩) f1
  obtain ⟨h2, e2, o2, B2⟩ := traceByBooks_eq G1 hA R1 hx hm
  have o12 := o1.tr (o2.mono (fun a q => Or.inr (Or.inr q)) : Only h1 h2 KpF)
  have G2 := o2.Gr G1
  have J2 := J1.scr o2
  refine ⟨h2, ?_, o12, J2⟩
  unfold f_X0_countBroken
  rw [gK_g hG (by decide) (by decide), e1, bS, e2, bS, brk_def]
  exact cb_L G2 hA J2.1 (fun j hj => by rw [o2.2.2.2.2.2 92 (by unfold Scr; omega)]; exact q1 j hj) hx hm B2 hw (wy.only o12 (by unfold KpF Scr; omega) (by unfold KpF Scr; omega)) hp h7 he (fun x4e88 => some (x4e88, h2)) (sw A) fuel 0 (by omega) (by have := hA.2.2.2.2.2.2.1; unfold fuel; omega)
theorem und_set : ∀ (ps : List PK) (k : Nat) (p q : PK), ps[k]? = some p → undS (ps.set k q) + (if p.2.2.2 = -1 then 1 else 0) = undS ps + (if q.2.2.2 = -1 then 1 else 0)
  | [], k, p, q, hk => by simp at hk
  | a :: ps, 0, p, q, hk => by
    simp at hk
    subst hk
    unfold undS
    rw [List.set_cons_zero, List.filter_cons, List.filter_cons]
    by_cases c1 : a.2.2.2 = -1 <;> by_cases c2 : q.2.2.2 = -1 <;> simp [c1, c2]
  | a :: ps, k + 1, p, q, hk => by
    simp at hk
    have ih := und_set ps k p q hk
    unfold undS at ih ⊢
    rw [List.set_cons_succ, List.filter_cons, List.filter_cons]
    by_cases c1 : a.2.2.2 = -1 <;> simp [c1] <;> omega
theorem und_pos : ∀ (ps : List PK) (k : Nat) (p : PK), ps[k]? = some p → p.2.2.2 = -1 → 1 ≤ undS ps
  | [], k, p, hk, _ => by simp at hk
  | a :: ps, 0, p, hk, e => by
    simp at hk
    subst hk
    unfold undS
    rw [List.filter_cons]
    simp [e]
  | a :: ps, k + 1, p, hk, e => by
    simp at hk
    have ih := und_pos ps k p hk e
    unfold undS at ih ⊢
    rw [List.filter_cons]
    split
    · rw [List.length_cons]; omega
    · exact ih
theorem goN_ok {q : List Nat} {t : Nat} (h7 : q.length ≤ 7) (h1 : 1 ≤ q.length) (hs : ∀ s ∈ q, s < 7) (hd : q.Nodup) (ht : t < 7 ∨ (100 ≤ t ∧ t < 112)) :
    ((goN q t).2 = -1 ∧ (goN q t).1 = q ++ [t] ∧ t < 7 ∧ q.length < 7 ∧ t ∉ q) ∨ ((goN q t).1 = q ∧ ∃ e, e < 13 ∧ (goN q t).2 = nI e) := by
  unfold goN
  by_cases c : 100 ≤ t
  · rw [if_pos c]; exact Or.inr ⟨rfl, t - 100, by omega, rfl⟩
  · rw [if_neg c]
    by_cases c2 : t ∈ q ∨ 7 ≤ q.length
    · rw [if_pos c2]; exact Or.inr ⟨rfl, 12, by decide, rfl⟩
    · rw [if_neg c2]
      exact Or.inl ⟨rfl, rfl, by omega, by omega, fun q => c2 (Or.inl q)⟩
theorem last_lt {p : List Nat} (h1 : 1 ≤ p.length) (hp : ∀ t ∈ p, t < 7) : p.getLastD 0 < 7 := by
  obtain ⟨q, e⟩ := list_last h1
  exact hp _ (by rw [e]; simp)
section
variable {h : MH} {z : ZS}
theorem x_hop (hz : OkZ z) (C : CX h z) (x : Int32) : ∃ h', f_X9_hop h 0 x = some ((opHop z x).1, h') ∧ CX h' (opHop z x).2 ∧ CF h h' := by
  have C0 := C
  obtain ⟨hG, J, -, -, P, W, R⟩ := C
  have hR := hz.2.2.2.2.2
  have hA := hz.1
  unfold f_X9_hop
  repeat (first | rw [gK_g hG (by decide) (by decide)] | rw [gI_g hG (by decide) (by decide)] | rw [gR_g hG (by decide) (by decide) (by rfl)] | rw [bS])
  cases hr : zR2 z with
  | none =>
    rw [hr] at R
    have e : opHop z x = (-1, z) := by unfold opHop; rw [hr]
    rw [pkOf_0 hG R, bS, e]
    exact ⟨h, rfl, C0, CF.rf⟩
  | some q =>
    obtain ⟨at_, ch, ps, br⟩ := q
    rw [hr] at R hR
    have RR := R
    obtain ⟨r1, r2, r3, r4, r5, r6, r7⟩ := R
    have hl40 : ps.length ≤ 40 := hR.2.2.1
    have hc : ch < 128 := hR.2.1
    have hund : undS ps ≤ 40 := Nat.le_trans (List.length_filter_le _ _) hl40
    have hbr : br ≤ 10 * ps.length := hR.2.2.2.2
    rcases idx_cases x ps.length (by omega) with ⟨k, hk, rfl, ik⟩ | ⟨-, ik, c⟩
    · obtain ⟨p, ep⟩ : ∃ p, ps[k]? = some p := ⟨ps[k], List.getElem?_eq_getElem hk⟩
      have ok := hR.2.2.2.1 p (List.mem_of_getElem? ep)
      obtain ⟨k1, k2, k3, k4, k5, k6, k7⟩ := ok
      have q : PkAt h k p := r7 k p ep
      have hk40 : k < 40 := by omega
      have eq0 : opHop z (nI k) = if p.2.2.2 = -1 then
          (if (hopP (zA z) ch p).2.2.2 = -1 then (nI (goS (zA z) ch p.2.1 (p.2.2.1.getLastD 0)), (zA z, zP z, zT z, some (at_, ch, ps.set k (hopP (zA z) ch p), br)))
           else (nI (100 + endN (hopP (zA z) ch p).2.2.2), (zA z, zP z, zT z, some (at_, ch, ps.set k (hopP (zA z) ch p), br + brkS (zA z) p.1 p.2.1 ((hopP (zA z) ch p).2.2.1, endN (hopP (zA z) ch p).2.2.2)))))
        else (-1, z) := by
        unfold opHop
        rw [hr]
        show (match idx (nI k) ps.length with | some k => _ | none => _) = _
        rw [ik]
        show (match ps[k]? with | some p => _ | none => _) = _
        rw [ep]
      rw [pkOf_y hG RR hl40 hk, bS]
      show ∃ h', (f_X2_isUnderWay h (108 + 3 * k)).bind _ = _ ∧ _
      rw [und_pk hG hk40 q, bS, eq0]
      by_cases c1 : p.2.2.2 = -1
      · rw [if_pos c1, if_neg (by decide), if_pos c1]
        have hs7 := last_lt k3 k5
        have hgo := goS_lt hA (mix := ch) (m := p.2.1) hs7
        have wq := q.2.2
        rw [c1] at wq
        obtain ⟨h1, e1, o1, w1⟩ := goOn_eq hG (isW_pk hk40) wq k4 k5 hgo
        have G1 := o1.Gr hG
        have e106 := o1.2.2.2.2.2 106 (by unfold Two; omega)
        have e108 := o1.2.2.2.2.2 (108 + 3 * k) (by unfold Two; omega)
        have J1 := JK.only o1 (fun a q => by unfold Two at q; omega) J
        have q1 : PkAt h1 k (hopP (zA z) ch p) := ⟨by rw [e108]; exact q.1, by rw [e108]; exact q.2.1, w1⟩
        have uset := und_set ps k p (hopP (zA z) ch p) ep
        have upos := und_pos ps k p ep c1
        rw [if_pos c1] at uset
        have ok' := goN_ok k4 k3 k5 k6 hgo
        have oth : ∀ {h2 : MH} {P : Nat → Prop}, Only h h2 P → (∀ a, P a → a = 106 ∨ Two (109 + 3 * k) a ∨ KpF a) → PkAt h2 k (hopP (zA z) ch p) → ∀ (i : Nat) (p' : PK), (ps.set k (hopP (zA z) ch p))[i]? = some p' → PkAt h2 i p' := by
          intro h2 P o hp qk i p' hi
          by_cases ei : i = k
          · subst ei
            rw [List.getElem?_set_self hk] at hi
            cases hi
            exact qk
          · rw [List.getElem?_set_ne (fun z => ei z.symm)] at hi
            have hil : i < ps.length := (List.getElem?_eq_some_iff.mp hi).1
            obtain ⟨a, b, c⟩ := r7 i p' hi
            have np : ∀ a, 108 + 3 * i ≤ a → a < 111 + 3 * i → ¬ P a := fun a h1 h2 z => by have := hp a z; unfold Two KpF Scr at this; omega
            have ea := o.2.2.2.2.2 (108 + 3 * i) (np _ (by omega) (by omega))
            exact ⟨by rw [ea]; exact a, by rw [ea]; exact b, c.only o (np _ (by omega) (by omega)) (np _ (by omega) (by omega))⟩
        have base : f_X6_moveOn h 106 (108 + 3 * k) = (if (hopP (zA z) ch p).2.2.2 = -1 then some h1 else (f_X0_countBroken (mm_si h1 106 8 (nI (undS ps - 1))) 90 (nI p.1) (nI p.2.1) (109 + 3 * k)).bind fun r64 => (pI r64.2 106 6 9 (nI br + r64.1)).bind fun h68 => some h68) := by
          unfold f_X6_moveOn
          rw [gK_g hG (by decide) (by decide), gR_g hG (by omega) (gk_pk hk40) (gr_pk hk40), bS, gR_g hG (by decide) (by decide) (show gr 106 0 = some 1 from rfl), bS, place_pk hG hk40 q k3 k4, bS, gI_g hG (by decide) (by decide), bS, r3, gI_g hG (by omega) (gk_pk hk40), bS, q.2.1, whereTo_eq hG hA J.1 hs7 hc k2, bS, e1, bS, und_pk G1 hk40 q1, bS, it_b1']
          by_cases c2 : (hopP (zA z) ch p).2.2.2 = -1
          · rw [if_pos c2, if_pos c2]
          · rw [if_neg c2, if_neg c2, gI_g G1 (by decide) (by decide), bS, e106, r5, cl_sub (by omega), pI_g G1 (by decide) (by decide), bS, gI_g G1.si (by decide) (by decide), bS, si_o2 (by decide), e106, r6, gR_g G1.si (by decide) (by decide) (show gr 106 1 = some 90 from rfl), bS, gI_g G1.si (by omega) (gk_pk hk40), bS, si_o (by omega), q1.1, gI_g G1.si (by omega) (gk_pk hk40), bS, si_o (by omega), q1.2.1, gR_g G1.si (by omega) (gk_pk hk40) (gr_pk hk40), bS]
            rfl
        repeat (first | rw [gK_g hG (by decide) (by decide)] | rw [gI_g hG (by decide) (by decide)] | rw [gR_g hG (by decide) (by decide) (by rfl)] | rw [bS])
        rw [base]
        by_cases c2 : (hopP (zA z) ch p).2.2.2 = -1
        · rw [if_pos c2, if_pos c2, bS, und_pk G1 hk40 q1, bS, if_pos c2, if_neg (by decide)]
          have okk := ok'.resolve_right (fun z => by
            obtain ⟨-, e, he, ee⟩ := z
            rw [show (goN p.2.2.1 (goS (zA z) ch p.2.1 (p.2.2.1.getLastD 0))).2 = (hopP (zA z) ch p).2.2.2 from rfl, c2] at ee
            exact nI_ne_m1 (by omega) ee.symm)
          have lp : (hopP (zA z) ch p).2.2.1 = p.2.2.1 ++ [goS (zA z) ch p.2.1 (p.2.2.1.getLastD 0)] := okk.2.1
          rw [place_pk G1 hk40 q1 (by rw [lp]; simp) (by rw [lp]; simp; omega), bS]
          have u2 : undS (ps.set k (hopP (zA z) ch p)) = undS ps := by rw [if_pos c2] at uset; omega
          refine ⟨h1, ?_, CX.mk2 C0 o1 (fun a q => by unfold Two at q; omega) J1 (P.only o1 (by unfold Two; omega) (by unfold Two; omega)) (W.only o1 (by unfold Two; omega) (by unfold Two; omega)) ?_, CF.of o1 (fun a q => by unfold Two at q; omega)⟩
          · rw [lp]; simp
          · refine ⟨by rw [e106]; exact r1, by rw [e106]; exact r2, by rw [e106]; exact r3, by rw [e106, List.length_set]; exact r4, by rw [e106, u2]; exact r5, by rw [e106]; exact r6, oth o1 (fun a q => Or.inr (Or.inl q)) q1⟩
        · rw [if_neg c2, if_neg c2]
          obtain ⟨lp, e, he, ee⟩ := ok'.resolve_left (fun z => c2 z.1)
          have lp : (hopP (zA z) ch p).2.2.1 = p.2.2.1 := lp
          have ee : (hopP (zA z) ch p).2.2.2 = nI e := ee
          have en : endN (hopP (zA z) ch p).2.2.2 = e := by rw [ee]; exact nI_clamp (by omega)
          have J2 : JK (mm_si h1 106 8 (nI (undS ps - 1))) (zA z) := JK.only (P := fun a => a = 106) (Only.si rfl) (fun a q => by omega) J1
          have w2 : WayIs (mm_si h1 106 8 (nI (undS ps - 1))) (109 + 3 * k) (hopP (zA z) ch p).2.2.1 (nI e) := by
            have := q1.2.2
            rw [ee] at this
            exact this.only (P := fun a => a = 106) (Only.si rfl) (by omega) (by omega)
          obtain ⟨h3, e3, o3, J3⟩ := countBroken_eq G1.si hA J2 k1 k2 (isW_pk hk40) (by omega) w2 (by rw [lp]; exact k5) (by rw [lp]; exact k4) he
          have G3 := o3.Gr G1.si
          have oF : Only h (mm_si h3 106 9 (nI (br + brkS (zA z) p.1 p.2.1 ((hopP (zA z) ch p).2.2.1, e)))) (fun a => a = 106 ∨ Two (109 + 3 * k) a ∨ KpF a) :=
            (((o1.mono (P' := fun a => a = 106 ∨ Two (109 + 3 * k) a ∨ KpF a) (fun a q => Or.inr (Or.inl q))).tr (Only.si (Or.inl rfl))).tr (o3.mono (fun a q => Or.inr (Or.inr q)))).tr (Only.si (Or.inl rfl))
          have qF : PkAt (mm_si h3 106 9 (nI (br + brkS (zA z) p.1 p.2.1 ((hopP (zA z) ch p).2.2.1, e)))) k (hopP (zA z) ch p) := by
            have oo : Only h1 (mm_si h3 106 9 (nI (br + brkS (zA z) p.1 p.2.1 ((hopP (zA z) ch p).2.2.1, e)))) (fun a => a = 106 ∨ KpF a) := ((Only.si (P := fun a => a = 106 ∨ KpF a) (Or.inl rfl)).tr (o3.mono (fun a q => Or.inr q))).tr (Only.si (Or.inl rfl))
            have ea := oo.2.2.2.2.2 (108 + 3 * k) (by unfold KpF Scr; omega)
            exact ⟨by rw [ea]; exact q1.1, by rw [ea]; exact q1.2.1, q1.2.2.only oo (by unfold KpF Scr; omega) (by unfold KpF Scr; omega)⟩
          have e3106 := o3.2.2.2.2.2 106 (by unfold KpF Scr; omega)
          have u2 : undS (ps.set k (hopP (zA z) ch p)) = undS ps - 1 := by rw [if_neg c2] at uset; omega
          rw [e3, bS, nI_add, pI_g G3 (by decide) (by decide), bS, bS, und_pk G3.si hk40 qF, bS, if_neg c2, if_pos rfl, en]
          refine ⟨mm_si h3 106 9 (nI (br + brkS (zA z) p.1 p.2.1 ((hopP (zA z) ch p).2.2.1, e))), ?_, CX.mk2 C0 oF (fun a q => by unfold Two KpF Scr at q; omega) (JK.only (P := fun a => a = 106) (Only.si rfl) (fun a q => by omega) J3) (P.only oF (by unfold Two KpF Scr; omega) (by unfold Two KpF Scr; omega)) (W.only oF (by unfold Two KpF Scr; omega) (by unfold Two KpF Scr; omega)) ?_, CF.of oF (fun a q => by unfold Two KpF Scr at q; omega)⟩
          · unfold f_X2_end
            rw [gK_g G3.si (by omega) (gk_pk hk40), gR_g G3.si (by omega) (gk_pk hk40) (gr_pk hk40), bS, end_eq G3.si (isW_pk hk40), bS, bS, qF.2.2.2.2.1, ee, cl_add2]
          · refine ⟨?_, ?_, ?_, ?_, ?_, ?_, oth oF (fun a q => q) qF⟩
            · rw [si_o2 (by decide), e3106, si_o2 (by decide), e106]; exact r1
            · rw [si_o2 (by decide), e3106, si_o2 (by decide), e106]; exact r2
            · rw [si_o2 (by decide), e3106, si_o2 (by decide), e106]; exact r3
            · rw [si_o2 (by decide), e3106, si_o2 (by decide), e106, List.length_set]; exact r4
            · rw [si_o2 (by decide), e3106, si_s, u2]
            · rw [si_s]
      · rw [if_neg c1, if_pos rfl, if_neg c1]
        exact ⟨h, rfl, C0, CF.rf⟩
    · have e : opHop z x = (-1, z) := by
        unfold opHop; rw [hr]
        show (match idx x ps.length with | some k => _ | none => _) = _
        rw [ik]
      rw [pkOf_n hG RR c, bS, e]
      exact ⟨h, rfl, C0, CF.rf⟩
end

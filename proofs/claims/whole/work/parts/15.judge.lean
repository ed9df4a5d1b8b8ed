/-! ===== the judge: wants, kept, good ===== -/
theorem wk_ok {go : Nat → Nat} (hgo : ∀ s, s < 7 → go s < 7 ∨ (100 ≤ go s ∧ go s < 112)) : ∀ (n : Nat) (p : List Nat) (s : Nat), n + p.length = 7 → 1 ≤ n → (∀ t ∈ p ++ [s], t < 7) → (∀ t ∈ (wkS go n p s).1, t < 7) ∧ (wkS go n p s).1.length ≤ 7 ∧ 1 ≤ (wkS go n p s).1.length ∧ (wkS go n p s).2 < 13
  | 0, _, _, _, h1, _ => by omega
  | n + 1, p, s, hn, _, hs => by
    have hs7 : s < 7 := hs s (by simp)
    have hg := hgo s hs7
    unfold wkS
    split
    · exact ⟨hs, by simp; omega, by simp, by simp; omega⟩
    · split
      · exact ⟨hs, by simp; omega, by simp, by simp⟩
      · rename_i c1 c2
        have h3 : ¬ n = 0 := fun z => c2 (Or.inr z)
        exact wk_ok hgo n (p ++ [s]) (go s) (by simp; omega) (by omega) (fun t ht => (List.mem_append.mp ht).elim (hs t) (fun z => by simp at z; omega))
theorem way_ok {A : SA} (hA : OkA A) {mix x m : Nat} (hx : x < sh A) : (∀ t ∈ (wayS A mix x m).1, t < 7) ∧ (wayS A mix x m).1.length ≤ 7 ∧ 1 ≤ (wayS A mix x m).1.length ∧ (wayS A mix x m).2 < 13 := by
  have hq := hA.2.2.2.2.1 x hx
  exact wk_ok (fun s hs => goS_lt hA hs) 7 [] _ rfl (by decide) (fun t ht => by simp at ht; omega)
def WantAt (h : MH) (A : SA) (i o : Nat) : Prop := mm_R h 91 i = some o ∧ o < mm_N h ∧ mm_K h o = 7 ∧ (∀ j, j < 6 → mm_I h o j = sx A i j) ∧ 252 ≤ o
theorem WantAt.only {h h' : MH} {A : SA} {i o : Nat} {P : Nat → Prop} (w : WantAt h A i o) (q : Only h h' P) (hp : ∀ a, P a → a < 252) : WantAt h' A i o := by
  obtain ⟨w1, w2, w3, w4, w5⟩ := w
  obtain ⟨o1, o2, o3, o4, o5, o6⟩ := q
  exact ⟨by rw [o3]; exact w1, by rw [o4]; exact w2, by rw [o1]; exact w3, fun j hj => by rw [o6 o (fun z => by have := hp o z; omega)]; exact w4 j hj, w5⟩
theorem gI_o {h : MH} {A : SA} {i o j : Nat} (w : WantAt h A i o) (hj : j < 6) : gI h o 7 j = some (sx A i j) := by
  unfold gI; rw [if_pos ⟨w.2.1, w.2.2.1⟩, w.2.2.2.1 j hj]
theorem gK_o {α : Type} {x : Option α} {h : MH} {A : SA} {i o : Nat} (w : WantAt h A i o) : gK h o 7 x = x := by
  unfold gK; rw [if_pos ⟨w.2.1, w.2.2.1⟩]
theorem b2_0 (b : Bool) : ((if b then (1 : Int32) else 0) = 0) = (b = false) := by cases b <;> simp
theorem it_b {α : Type} {b : Bool} {x y : α} : (if (if b then (1 : Int32) else 0) = 0 then x else y) = (if b then y else x) := by cases b <;> simp
theorem hasMark_eq {h : MH} {A : SA} {i o m : Nat} (hA : OkA A) (hi : i < sw A) (w : WantAt h A i o) (hm : m < 16) : f_X7_hasMark h o (nI m) = some (if spanW A i m then 1 else 0) := by
  obtain ⟨-, ⟨v, hv, ev⟩, ⟨b, hb, eb⟩, -⟩ := hA.2.2.2.2.2.2.2 i hi
  unfold f_X7_hasMark spanW
  rw [gK_o w, gI_o w (by decide), bS, gI_o w (by decide), bS, ev, eb, spanHas_eq hv hb hm, bS, nI_clamp (by omega), nI_clamp (by omega)]
  unfold zR
  rw [if_pos (by cases spanB v b m <;> simp)]
theorem allNew_eq {h : MH} {A : SA} (hG : Gr h) (hA : OkA A) (R : RX h A) : f_X1_allNew h 1 = some (nI (allS A)) := by
  have h7 := hA.2.1
  have hp : 1 ≤ 2 ^ sn A := Nat.one_le_two_pow
  unfold f_X1_allNew allS
  rw [gK_g hG (by decide) (by decide), gI_g hG (by decide) (by decide), bS, R.1.1, nx_shl8 (by omega), cl_sub (by exact hp)]
theorem all_lt {A : SA} (hA : OkA A) : allS A < 128 := by
  have h7 := hA.2.1
  have : 2 ^ sn A ≤ 2 ^ 7 := Nat.pow_le_pow_right (by decide) h7
  unfold allS; omega
/-- the judge's scratch: the ways by old, by new, mixed -/
def Scr (a : Nat) : Prop := 94 ≤ a ∧ a < 100
theorem scr_lt (a : Nat) (h : Scr a) : 91 < a ∧ a < 252 := by unfold Scr at h; omega
def Books (h : MH) (A : SA) (x m : Nat) : Prop := WayIs h 94 (wayS A 0 x m).1 (nI (wayS A 0 x m).2) ∧ WayIs h 96 (wayS A (allS A) x m).1 (nI (wayS A (allS A) x m).2)
theorem WayIs.only {h h' : MH} {w : Nat} {p : List Nat} {e : Int32} {P : Nat → Prop} (q : WayIs h w p e) (o : Only h h' P) (h1 : ¬ P w) (h2 : ¬ P (w + 1)) : WayIs h' w p e := by
  obtain ⟨q1, q2, q3, q4⟩ := q
  have e1 := o.2.2.2.2.2 w h1
  have e2 := o.2.2.2.2.2 (w + 1) h2
  exact ⟨by rw [e1]; exact q1, by rw [e1]; exact q2, by rw [e1]; exact q3, fun i s hi => by rw [e2]; exact q4 i s hi⟩
theorem traceByBooks_eq {h : MH} {A : SA} (hG : Gr h) (hA : OkA A) (R : RX h A) {x m : Nat} (hx : x < sh A) (hm : m < 16) :
    ∃ h', f_X0_traceByBooks h 90 (nI x) (nI m) = some h' ∧ Only h h' Scr ∧ Books h' A x m := by
  obtain ⟨h1, e1, o1, q1⟩ := trace_eq hG hA R (w := 94) ⟨isW_old, by decide⟩ hx (show 0 < 128 by decide) hm
  have R1 := RX.way ⟨isW_old, by decide⟩ o1 R
  have G1 := o1.Gr hG
  obtain ⟨h2, e2, o2, q2⟩ := trace_eq G1 hA R1 (w := 96) ⟨isW_new, by decide⟩ hx (all_lt hA) hm
  refine ⟨h2, ?_, (o1.mono (fun a ha => by unfold Two at ha; unfold Scr; omega)).tr (o2.mono (fun a ha => by unfold Two at ha; unfold Scr; omega)), q1.only o2 (by unfold Two; omega) (by unfold Two; omega), q2⟩
  unfold f_X0_traceByBooks
  rw [gK_g hG (by decide) (by decide), gR_g hG (by decide) (by decide) (show gr 90 0 = some 1 from rfl), bS, gR_g hG (by decide) (by decide) (show gr 90 4 = some 94 from rfl), bS, show (0 : Int32) = nI 0 from rfl, e1, bS, gR_g G1 (by decide) (by decide) (show gr 90 0 = some 1 from rfl), bS, gR_g G1 (by decide) (by decide) (show gr 90 5 = some 96 from rfl), bS, bS, allNew_eq G1 hA R1, bS, e2, bS]
theorem isLike_L {h : MH} {a b : Nat} {p q : List Nat} {e e' : Int32} (hG : Gr h) (ha : IsW a) (hb : IsW b) (wa : WayIs h a p e) (wb : WayIs h b q e') (hl : p.length = q.length) (h7 : p.length ≤ 7) (hp : ∀ t ∈ p, t < 7) (hq : ∀ t ∈ q, t < 7) :
    ∀ (n f i : Nat), n + i = p.length → n < f → f_X8_isLike_L26 (some 1) h a b f (nI i) = some (if p.drop i = q.drop i then 1 else 0)
  | 0, f, i, hn, hf => by
    obtain ⟨f, rfl⟩ : ∃ g, f = g + 1 := ⟨f - 1, by omega⟩
    rw [f_X8_isLike_L26, gI_g hG ha.1 ha.2.1, bS, wa.1, in_le (by omega) (by omega), if_pos (by omega), List.drop_of_length_le (by omega), List.drop_of_length_le (by omega), if_pos rfl]
  | n + 1, f, i, hn, hf => by
    obtain ⟨f, rfl⟩ : ∃ g, f = g + 1 := ⟨f - 1, by omega⟩
    have hi : i < p.length := by omega
    have hiq : i < q.length := by omega
    have p7 := hp _ (List.getElem_mem hi)
    have q7 := hq _ (List.getElem_mem hiq)
    rw [f_X8_isLike_L26, gI_g hG ha.1 ha.2.1, bS, wa.1, in_le (by omega) (by omega), if_neg (by omega), gR_g hG ha.1 ha.2.1 ha.2.2.1, bS, aI_g hG ha.2.2.2.1 ha.2.2.2.2.1 (by rw [ha.2.2.2.2.2]; omega), bS, wa.2.2.2 i p[i] (List.getElem?_eq_getElem hi), gR_g hG hb.1 hb.2.1 hb.2.2.1, bS, aI_g hG hb.2.2.2.1 hb.2.2.2.2.1 (by rw [hb.2.2.2.2.2]; omega), bS, wb.2.2.2 i q[i] (List.getElem?_eq_getElem hiq), in_eq (by omega) (by omega), cl_add]
    have ed : (p.drop i = q.drop i) ↔ (p[i] = q[i] ∧ p.drop (i + 1) = q.drop (i + 1)) := by
      rw [List.drop_eq_getElem_cons hi, List.drop_eq_getElem_cons hiq]
      exact ⟨fun z => List.cons.inj z, fun z => by rw [z.1, z.2]⟩
    by_cases c : p[i] = q[i]
    · rw [if_pos c, isLike_L hG ha hb wa wb hl h7 hp hq n f (i + 1) (by omega) (by omega)]
      by_cases c9 : p.drop (i + 1) = q.drop (i + 1)
      · rw [if_pos c9, if_pos (ed.mpr ⟨c, c9⟩)]
      · rw [if_neg c9, if_neg (fun z => c9 (ed.mp z).2)]
    · rw [if_neg c, if_neg (fun z => c (ed.mp z).1)]
theorem isLike_eq {h : MH} {a b : Nat} {p q : List Nat} {e e' : Nat} (hG : Gr h) (ha : IsW a) (hb : IsW b) (wa : WayIs h a p (nI e)) (wb : WayIs h b q (nI e')) (h7 : p.length ≤ 7) (h7' : q.length ≤ 7) (hp : ∀ t ∈ p, t < 7) (hq : ∀ t ∈ q, t < 7) (he : e < 13) (he' : e' < 13) :
    f_X8_isLike h a b = some (if ((p, e) == (q, e')) then 1 else 0) := by
  unfold f_X8_isLike
  rw [gK_g hG ha.1 ha.2.1, gI_g hG ha.1 ha.2.1, bS, wa.1, gI_g hG hb.1 hb.2.1, bS, wb.1, in_eq (by omega) (by omega)]
  by_cases c : p.length = q.length
  · rw [if_pos c, gI_g hG ha.1 ha.2.1, bS, wa.2.2.1, gI_g hG hb.1 hb.2.1, bS, wb.2.2.1, in_eq (by omega) (by omega)]
    by_cases c2 : e = e'
    · rw [if_pos c2, show (0 : Int32) = nI 0 from rfl, isLike_L hG ha hb wa wb c h7 hp hq p.length fuel 0 (by omega) (by unfold fuel; omega)]
      simp only [List.drop_zero]
      by_cases c3 : p = q
      · simp [c3, c2]
      · simp [c3]; rfl
    · rw [if_neg c2]; simp [c2]
  · rw [if_neg c]
    have : ¬ p = q := fun z => c (by rw [z])
    simp [this]
theorem isMet_eq {h : MH} {A : SA} {i o w m a : Nat} {p : List Nat} {e : Nat} (hG : Gr h) (hA : OkA A) (hi : i < sw A) (wt : WantAt h A i o) (hw : IsW w) (wy : WayIs h w p (nI e)) (hp : ∀ t ∈ p, t < 7) (h7 : p.length ≤ 7) (he : e < 13) (ha : sx A i 3 = nI a) (has : a < sh A) (B : Books h A a m) :
    f_X7_isMet h o w 94 96 = some (if metS A i m (p, e) then 1 else 0) := by
  obtain ⟨⟨k, hk, ek⟩, -, -, -, hs⟩ := hA.2.2.2.2.2.2.2 i hi
  have w0 := way_ok hA (mix := 0) (m := m) has
  have w1 := way_ok hA (mix := allS A) (m := m) has
  have h6 := hA.2.2.1
  have hcl : (sx A i 3).toNatClampNeg = a := by rw [ha, nI_clamp (by omega)]
  unfold f_X7_isMet metS
  rw [gK_o wt, gI_o wt (by decide), bS]
  by_cases c0 : sx A i 0 = 0
  · rw [if_pos c0, if_pos c0, end_eq hG hw, bS, wy.2.2.1, gI_o wt (by decide), bS]
    by_cases c : nI e = sx A i 4
    · rw [if_pos c]; simp [c]
    · rw [if_neg c]; simp [c]
  · rw [if_neg c0, if_neg c0]
    by_cases c1 : sx A i 0 = 1
    · rw [if_pos c1, if_pos c1, end_eq hG hw, bS, wy.2.2.1, it_eq1 (by omega) (by decide)]
      by_cases c : e = 12
      · rw [if_pos c]; simp [c]
      · rw [if_neg c]; simp [c]
    · rw [if_neg c1, if_neg c1]
      by_cases c2 : sx A i 0 = 2
      · rw [if_pos c2, if_pos c2, end_eq hG hw, bS, wy.2.2.1, gI_o wt (by decide), bS]
        by_cases c : nI e = sx A i 4
        · rw [if_pos c]; simp [c]
        · rw [if_neg c]; simp [c]
      · rw [if_neg c2, if_neg c2]
        by_cases c3 : sx A i 0 = 3
        · rw [if_pos c3, if_pos c3, end_eq hG hw, bS, wy.2.2.1, gI_o wt (by decide), bS]
          by_cases c : nI e = sx A i 4
          · obtain ⟨t, ht, et⟩ := hs (c3.trans rfl)
            have hpm : f_X8_passes h w (nI t) = some (if bit (mask p) t = 0 then 0 else 1) := by
              unfold f_X8_passes
              rw [gK_g hG hw.1 hw.2.1, gI_g hG hw.1 hw.2.1, bS, wy.2.1, nx_bt (mask_lt hp) ht, it_eq1 (by have := bit_lt (mask p) t; omega) (by decide)]
              split <;> rfl
            have hany : (p.any (fun t' => nI t' == nI t)) = true ↔ t ∈ p := by
              rw [List.any_eq_true]
              constructor
              · rintro ⟨x, hx, hxe⟩
                have hx7 := hp x hx
                have hxe2 : nI x = nI t := by simpa using hxe
                have := nI_inj (a := x) (b := t) (by omega) (by omega) hxe2
                rw [← this]; exact hx
              · intro hx; exact ⟨t, hx, by simp⟩
            rw [if_pos c, gI_o wt (by decide), bS, et, hpm, bS]
            by_cases cm : t ∈ p
            · have hb1 : ¬ bit (mask p) t = 0 := fun z => ((mask_bit hp ht).mp z) cm
              rw [if_neg hb1, if_neg (by decide)]; simp [c, hany.mpr cm]
            · have hb1 : bit (mask p) t = 0 := (mask_bit hp ht).mpr cm
              have hf : (p.any (fun t' => nI t' == nI t)) = false := by
                cases hq : (p.any (fun t' => nI t' == nI t)) with
                | false => rfl
                | true => exact absurd (hany.mp hq) cm
              rw [if_pos hb1, if_pos rfl]; simp [c, hf]
          · rw [if_neg c]; simp [c]
        · rw [if_neg c3, if_neg c3, hcl, isLike_eq hG hw isW_old wy B.1 h7 w0.2.1 hp w0.1 he w0.2.2.2, bS, it_b, isLike_eq hG hw isW_new wy B.2 h7 w1.2.1 hp w1.1 he w1.2.2.2, bS, it_b]
          generalize ((p, e) == (wayS A 0 a m)) = x
          generalize ((p, e) == (wayS A (allS A) a m)) = y
          cases x <;> cases y <;> simp

/-! ===== the class's ports, hosts and net ===== -/
theorem RX.port {h h1 : MH} {A A' : SA} (R : RX h A) (o : Only h h1 (fun a => a = 1 ∨ a = 2 ∨ a = 3)) (N : RXn h1 A') (e1 : sc A' = sc A) (e2 : sd A' = sd A) (e3 : sw A' = sw A) (e4 : sx A' = sx A) : RX h1 A' := by
  obtain ⟨o1, o2, o3, o4, o5, o6⟩ := o
  obtain ⟨-, rr, w1, w2⟩ := R
  refine ⟨N, fun q hq => ?_, by rw [o6 90 (by decide), e3]; exact w1, fun i hi => ?_⟩
  · obtain ⟨r1, r2, r3⟩ := rr q hq
    refine ⟨by rw [o6 _ (by omega), e1]; exact r1, fun i hi j hj => by rw [o6 _ (by omega), e2]; exact r2 i (by rw [e1] at hi; exact hi) j hj, fun m hm => by rw [o6 _ (by omega)]; unfold actS; rw [e1, e2]; exact r3 m hm⟩
  · obtain ⟨o, p1, p2, p3, p4, p5⟩ := w2 i (by rw [e3] at hi; exact hi)
    exact ⟨o, by rw [o3]; exact p1, by rw [o4]; exact p2, by rw [o1]; exact p3, fun j hj => by rw [o6 o (by omega), e4]; exact p4 j hj, p5⟩
theorem cnt_cong {p q : Nat → Bool} : ∀ n, (∀ j, j < n → p j = q j) → cntS p n = cntS q n
  | 0, _ => rfl
  | n + 1, h => by rw [cntS, cntS, cnt_cong n (fun j hj => h j (by omega)), h n (by omega)]
theorem cnt_ch {p q : Nat → Bool} {k : Nat} (hp : p k = false) (hq : q k = true) (he : ∀ j, j ≠ k → p j = q j) : ∀ n, k < n → cntS q n = cntS p n + 1
  | 0, hk => by omega
  | n + 1, hk => by
    rw [cntS, cntS]
    by_cases e : k = n
    · subst e
      rw [cnt_cong (p := q) (q := p) k (fun j hj => (he j (by omega)).symm), hp, hq]; simp
    · rw [cnt_ch hp hq he n (by omega), he n (fun z => e z.symm)]; omega
def lkP (f : Nat → Nat) (k : Nat) : Bool := decide (1 ≤ f k) && decide (f k ≤ 28)
theorem lkS_def (A : SA) : lkS A = cntS (lkP (sp A)) 28 := rfl
theorem lk_up {f : Nat → Nat} {k v : Nat} (hk : k < 28) (h0 : lkP f k = false) (hv : 1 ≤ v ∧ v ≤ 28) : cntS (lkP (va_up f k v)) 28 = cntS (lkP f) 28 + 1 :=
  cnt_ch h0 (by unfold lkP; rw [va_up_self]; simp [hv.1, hv.2]) (fun j hj => by unfold lkP; rw [va_up_ne _ _ hj]) 28 hk
theorem lk_dn {f : Nat → Nat} {k : Nat} (hk : k < 28) (h0 : lkP f k = true) : cntS (lkP f) 28 = cntS (lkP (va_up f k 0)) 28 + 1 :=
  cnt_ch (by unfold lkP; rw [va_up_self]; simp) h0 (fun j hj => by unfold lkP; rw [va_up_ne _ _ hj]) 28 hk
theorem lk_eq {f : Nat → Nat} {k v : Nat} (h0 : lkP f k = false) (hv : v = 0 ∨ 28 < v) : cntS (lkP (va_up f k v)) 28 = cntS (lkP f) 28 :=
  cnt_cong 28 (fun j hj => by
    by_cases e : j = k
    · subst e
      rw [h0]; unfold lkP; rw [va_up_self]
      rcases hv with hv | hv
      · simp [hv]
      · simp; omega
    · unfold lkP; rw [va_up_ne _ _ e])
theorem pcI_l {q : Nat} (hq : q < 28) : pcI (q + 1) = nI q := by unfold pcI; rw [if_neg (by omega), if_pos (by omega)]; simp
theorem pcI_h {i : Nat} : pcI (100 + i) = nI (100 + i) := by unfold pcI; rw [if_neg (by omega), if_neg (by omega)]
theorem lkS_le (A : SA) : lkS A ≤ 28 := cnt_le _ 28
section
variable {h : MH} {z : ZS}
theorem hasPort_y {A : SA} (hG : Gr h) (hA : OkA A) (R : RX h A) {s p : Nat} (hs : s < sn A) (hp : p < 4) : f_X1_hasPort h 1 (nI s) (nI p) = some 1 := by
  unfold f_X1_hasPort
  rw [gK_g hG (by decide) (by decide), hasSw_y hG hA R hs, bS, if_neg (by decide), it_neg (by omega), it_le2 (by omega) (by decide), if_neg (by omega)]
theorem opLink_no {a b c d : Int32} (hA : OkA (zA z)) (q : ∀ s p t r, s < sn (zA z) → p < 4 → t < sn (zA z) → r < 4 → a = nI s → b = nI p → c = nI t → d = nI r → s = t ∨ sp (zA z) (4 * s + p) ≠ 0 ∨ sp (zA z) (4 * t + r) ≠ 0) : opLink z a b c d = (0, z) := by
  have h7 := hA.2.1
  unfold opLink
  rcases idx_cases a (sn (zA z)) (by omega) with ⟨s, hs, ea, i1⟩ | ⟨-, i1, -⟩
  · rcases idx_cases b 4 (by decide) with ⟨p, hp, eb, i2⟩ | ⟨-, i2, -⟩
    · rcases idx_cases c (sn (zA z)) (by omega) with ⟨t, ht, ec, i3⟩ | ⟨-, i3, -⟩
      · rcases idx_cases d 4 (by decide) with ⟨r, hr, ed, i4⟩ | ⟨-, i4, -⟩
        · rw [i1, i2, i3, i4]; exact if_pos (q s p t r hs hp ht hr ea eb ec ed)
        · rw [i1, i2, i3, i4]
      · rw [i1, i2, i3]
    · rw [i1, i2]
  · rw [i1]
theorem x_link (hz : OkZ z) (C : CX h z) (a b c d : Int32) : ∃ h', f_X9_link h 0 a b c d = some ((opLink z a b c d).1, h') ∧ CX h' (opLink z a b c d).2 ∧ CF h h' := by
  have C0 := C
  obtain ⟨hG, J, L, N, P, W, RR⟩ := C
  have R := J.1
  have hA := hz.1
  have h7 := hA.2.1
  have no : ∀ {x : Option (Int32 × MH)}, opLink z a b c d = (0, z) → x = some (0, h) → ∃ h', x = some ((opLink z a b c d).1, h') ∧ CX h' (opLink z a b c d).2 ∧ CF h h' := fun e ea => by
    rw [e]; exact ⟨h, ea, C0, CF.rf⟩
  unfold f_X9_link
  repeat (first | rw [gK_g hG (by decide) (by decide)] | rw [gI_g hG (by decide) (by decide)] | rw [gR_g hG (by decide) (by decide) (by rfl)] | rw [bS])
  by_cases c1 : a = c
  · refine no (opLink_no hA (fun s p t r hs hp ht hr ea eb ec ed => Or.inl ?_)) (by rw [if_pos c1])
    rw [ea, ec] at c1
    exact nI_inj (by omega) (by omega) c1
  · rw [if_neg c1]
    rcases isFree_eq hG hA R a b with ⟨s, p, hs, hp, rfl, rfl, f0, e0⟩ | ⟨q, e0⟩
    · rcases isFree_eq hG hA R c d with ⟨t, r, ht, hr, rfl, rfl, f1, e1⟩ | ⟨q, e1⟩
      · have hst : s ≠ t := fun e => c1 (by rw [e])
        have hk : 4 * s + p < 28 := by omega
        have hq : 4 * t + r < 28 := by omega
        have hkq : 4 * s + p ≠ 4 * t + r := by omega
        have e : opLink z (nI s) (nI p) (nI t) (nI r) = (1, freshZ z (linkA (zA z) (4 * s + p) (4 * t + r))) := by
          unfold opLink
          rw [idx_nI hs (by omega), idx_nI hp (by decide), idx_nI ht (by omega), idx_nI hr (by decide)]
          exact if_neg (fun z => z.elim hst (fun z => z.elim (fun z => z f0) (fun z => z f1)))
        have lk : lkS (linkA (zA z) (4 * s + p) (4 * t + r)) = lkS (zA z) + 2 := by
          rw [lkS_def, lkS_def]
          show cntS (lkP (va_up (va_up (sp (zA z)) (4 * s + p) (4 * t + r + 1)) (4 * t + r) (4 * s + p + 1))) 28 = _
          rw [lk_up hq (by unfold lkP; rw [va_up_ne _ _ (Ne.symm hkq), f1]; rfl) (by omega), lk_up hk (by unfold lkP; rw [f0]; rfl) (by omega)]
        have ll := lkS_le (zA z)
        have o1 : Only h (mm_si (mm_si (mm_si h 2 (4 * s + p) (nI (4 * t + r))) 2 (4 * t + r) (nI (4 * s + p))) 1 8 (nI (lkS (zA z) / 2 + 1))) (fun a => a = 1 ∨ a = 2 ∨ a = 3) := ((Only.si (P := fun a => a = 1 ∨ a = 2 ∨ a = 3) (Or.inr (Or.inl rfl))).tr (Only.si (Or.inr (Or.inl rfl)))).tr (Only.si (Or.inl rfl))
        have N1 : RXn (mm_si (mm_si (mm_si h 2 (4 * s + p) (nI (4 * t + r))) 2 (4 * t + r) (nI (4 * s + p))) 1 8 (nI (lkS (zA z) / 2 + 1))) (linkA (zA z) (4 * s + p) (4 * t + r)) := by
          refine ⟨by rw [si_o2 (by decide), si_o (by decide), si_o (by decide)]; exact R.1.1, by rw [si_o2 (by decide), si_o (by decide), si_o (by decide)]; exact R.1.2.1, fun k hk => ?_, fun i hi => by rw [si_o (by decide), si_o (by decide), si_o (by decide)]; exact R.1.2.2.2 i hi⟩
          rw [si_o (by decide)]
          show _ = pcI (va_up (va_up (sp (zA z)) (4 * s + p) (4 * t + r + 1)) (4 * t + r) (4 * s + p + 1) k)
          by_cases k1 : k = 4 * t + r
          · subst k1; rw [si_s, va_up_self, pcI_l (by omega)]
          · rw [si_o2 k1, va_up_ne _ _ k1]
            by_cases k2 : k = 4 * s + p
            · subst k2; rw [si_s, va_up_self, pcI_l (by omega)]
            · rw [si_o2 k2, va_up_ne _ _ k2]; exact R.1.2.2.1 k hk
        obtain ⟨h2, e2, C2, F2, G2, R2⟩ := fin C0 o1 (fun a q => by omega) (R.port o1 N1 rfl rfl rfl rfl) (by rw [si_s, lk]; congr 1; omega)
        rw [e0, bS, if_neg (by decide)]
        repeat (first | rw [gK_g hG (by decide) (by decide)] | rw [gI_g hG (by decide) (by decide)] | rw [gR_g hG (by decide) (by decide) (by rfl)] | rw [bS])
        rw [e1, bS, if_neg (by decide)]
        repeat (first | rw [gK_g hG (by decide) (by decide)] | rw [gI_g hG (by decide) (by decide)] | rw [gR_g hG (by decide) (by decide) (by rfl)] | rw [bS])
        rw [e]
        refine ⟨h2, ?_, C2, F2⟩
        unfold f_X1_join
        rw [gK_g hG (by decide) (by decide), hasPort_y hG hA R hs hp, bS, if_neg (by decide), hasPort_y hG hA R ht hr, bS, if_neg (by decide), gR_g hG (by decide) (by decide) (show gr 1 0 = some 2 from rfl), bS, cl_mul, cl_mul, nI_add, nI_add, show s * 4 + p = 4 * s + p by omega, show t * 4 + r = 4 * t + r by omega, sI_g hG (by decide) (by decide) (show 4 * s + p < 28 from hk), bS, gR_g hG.si (by decide) (by decide) (show gr 1 0 = some 2 from rfl), bS, sI_g hG.si (by decide) (by decide) (show 4 * t + r < 28 from hq), bS, gI_g hG.si.si (by decide) (by decide), bS, si_o (by decide), si_o (by decide), N, cl_add, pI_g hG.si.si (by decide) (by decide), bS, bS, e2, bS]
      · refine no (opLink_no hA (fun s' p' t r hs' hp' ht hr ea eb ec ed => Or.inr (Or.inr (q t r ht hr ec ed)))) ?_
        rw [e0, bS, if_neg (by decide)]
        repeat (first | rw [gK_g hG (by decide) (by decide)] | rw [gI_g hG (by decide) (by decide)] | rw [gR_g hG (by decide) (by decide) (by rfl)] | rw [bS])
        rw [e1, bS, if_pos rfl]
    · exact no (opLink_no hA (fun s p t r hs hp ht hr ea eb ec ed => Or.inr (Or.inl (q s p hs hp ea eb)))) (by rw [e0, bS, if_pos rfl])
theorem opHost_no {a b : Int32} (hA : OkA (zA z)) (q : ∀ s p, s < sn (zA z) → p < 4 → a = nI s → b = nI p → sp (zA z) (4 * s + p) ≠ 0 ∨ sh (zA z) = 6) : opHost z a b = (-1, z) := by
  have h7 := hA.2.1
  unfold opHost
  rcases idx_cases a (sn (zA z)) (by omega) with ⟨s, hs, ea, i1⟩ | ⟨-, i1, -⟩
  · rcases idx_cases b 4 (by decide) with ⟨p, hp, eb, i2⟩ | ⟨-, i2, -⟩
    · rw [i1, i2]; exact if_pos (q s p hs hp ea eb)
    · rw [i1, i2]
  · rw [i1]
theorem x_host (hz : OkZ z) (C : CX h z) (a b : Int32) : ∃ h', f_X9_host h 0 a b = some ((opHost z a b).1, h') ∧ CX h' (opHost z a b).2 ∧ CF h h' := by
  have C0 := C
  obtain ⟨hG, J, L, N, P, W, RR⟩ := C
  have R := J.1
  have hA := hz.1
  have h7 := hA.2.1
  have h6 := hA.2.2.1
  have no : ∀ {x : Option (Int32 × MH)}, opHost z a b = (-1, z) → x = some (-1, h) → ∃ h', x = some ((opHost z a b).1, h') ∧ CX h' (opHost z a b).2 ∧ CF h h' := fun e ea => by
    rw [e]; exact ⟨h, ea, C0, CF.rf⟩
  unfold f_X9_host f_X1_hostCount
  repeat (first | rw [gK_g hG (by decide) (by decide)] | rw [gI_g hG (by decide) (by decide)] | rw [gR_g hG (by decide) (by decide) (by rfl)] | rw [bS])
  rcases isFree_eq hG hA R a b with ⟨s, p, hs, hp, rfl, rfl, f0, e0⟩ | ⟨q, e0⟩
  · rw [e0, bS, if_neg (by decide)]
    repeat (first | rw [gK_g hG (by decide) (by decide)] | rw [gI_g hG (by decide) (by decide)] | rw [gR_g hG (by decide) (by decide) (by rfl)] | rw [bS])
    rw [R.1.2.1, it_lt1 (by omega) (by decide)]
    by_cases c6 : sh (zA z) = 6
    · exact no (opHost_no hA (fun _ _ _ _ _ _ => Or.inr c6)) (by rw [if_neg (by omega)])
    · rw [if_pos (by omega)]
      have hk : 4 * s + p < 28 := by omega
      have e : opHost z (nI s) (nI p) = (nI (sh (zA z)), freshZ z (hostA (zA z) (4 * s + p))) := by
        unfold opHost
        rw [idx_nI hs (by omega), idx_nI hp (by decide)]
        exact if_neg (fun z => z.elim (fun z => z f0) c6)
      have lk : lkS (hostA (zA z) (4 * s + p)) = lkS (zA z) := by
        rw [lkS_def, lkS_def]
        show cntS (lkP (va_up (sp (zA z)) (4 * s + p) (100 + sh (zA z)))) 28 = _
        exact lk_eq (by unfold lkP; rw [f0]; rfl) (Or.inr (by omega))
      have o1 : Only h (mm_si (mm_si (mm_si h 2 (4 * s + p) (nI (100 + sh (zA z)))) 3 (sh (zA z)) (nI s)) 1 7 (nI (sh (zA z) + 1))) (fun a => a = 1 ∨ a = 2 ∨ a = 3) := ((Only.si (P := fun a => a = 1 ∨ a = 2 ∨ a = 3) (Or.inr (Or.inl rfl))).tr (Only.si (Or.inr (Or.inr rfl)))).tr (Only.si (Or.inl rfl))
      have N1 : RXn (mm_si (mm_si (mm_si h 2 (4 * s + p) (nI (100 + sh (zA z)))) 3 (sh (zA z)) (nI s)) 1 7 (nI (sh (zA z) + 1))) (hostA (zA z) (4 * s + p)) := by
        refine ⟨by rw [si_o2 (by decide), si_o (by decide), si_o (by decide)]; exact R.1.1, by rw [si_s]; rfl, fun k hk => ?_, fun i hi => ?_⟩
        · rw [si_o (by decide), si_o (by decide)]
          show _ = pcI (va_up (sp (zA z)) (4 * s + p) (100 + sh (zA z)) k)
          by_cases k2 : k = 4 * s + p
          · subst k2; rw [si_s, va_up_self, pcI_h]
          · rw [si_o2 k2, va_up_ne _ _ k2]; exact R.1.2.2.1 k hk
        · have hi : i < sh (zA z) + 1 := hi
          rw [si_o (by decide)]
          show _ = nI (va_up (sq (zA z)) (sh (zA z)) (4 * s + p) i / 4)
          by_cases k2 : i = sh (zA z)
          · subst k2; rw [si_s, va_up_self]; congr 1; omega
          · rw [si_o2 k2, va_up_ne _ _ k2, si_o (by decide)]; exact R.1.2.2.2 i (by omega)
      obtain ⟨h2, e2, C2, F2, G2, R2⟩ := fin C0 o1 (fun a q => by omega) (R.port o1 N1 rfl rfl rfl rfl) (by rw [si_o2 (by decide), si_o (by decide), si_o (by decide), lk]; exact N)
      rw [e]
      refine ⟨h2, ?_, C2, F2⟩
      unfold f_X1_addHost
      rw [gK_g hG (by decide) (by decide), hasPort_y hG hA R hs hp, bS, if_neg (by decide), gI_g hG (by decide) (by decide), bS, R.1.2.1, it_lt1 (by omega) (by decide), if_pos (by omega), gR_g hG (by decide) (by decide) (show gr 1 0 = some 2 from rfl), bS, bS, cl_mul, nI_add, cl_add2, show s * 4 + p = 4 * s + p by omega, sI_g hG (by decide) (by decide) (show 4 * s + p < 28 from hk), bS, gR_g hG.si (by decide) (by decide) (show gr 1 1 = some 3 from rfl), bS, gI_g hG.si (by decide) (by decide), bS, si_o (by decide), R.1.2.1, sI_g hG.si (by decide) (by decide) (show sh (zA z) < 6 by omega), bS, gI_g hG.si.si (by decide) (by decide), bS, si_o (by decide), si_o (by decide), R.1.2.1, cl_add, pI_g hG.si.si (by decide) (by decide), bS, gI_g hG.si.si.si (by decide) (by decide), bS, si_s, cl_sub (by omega), bS, e2, bS]
      rfl
  · exact no (opHost_no hA (fun s p hs hp ea eb => Or.inl (q s p hs hp ea eb))) (by rw [e0, bS, if_pos rfl])
theorem fill_L {n : Nat} (hn : n < 2 ^ 30) (x : Int32) (k : MH → Option MH) :
    ∀ (m f : Nat) (h : MH) (i : Nat), m + i = 28 → m < f → Gr h → (∀ j, j < i → mm_I h 2 j = x) → ∃ h', f_J7_fill_53178_L5 k 2 x (nI 28) f h (nI i) = k h' ∧ Only h h' (fun a => a = 2) ∧ ∀ j, j < 28 → mm_I h' 2 j = x
  | 0, f, h, i, hm, hf, hG, q => by
    obtain ⟨f, rfl⟩ : ∃ g, f = g + 1 := ⟨f - 1, by omega⟩
    exact ⟨h, by rw [f_J7_fill_53178_L5, in_le (by omega) (by omega), if_pos (by omega)], Only.rf, fun j hj => q j (by omega)⟩
  | m + 1, f, h, i, hm, hf, hG, q => by
    obtain ⟨f, rfl⟩ : ∃ g, f = g + 1 := ⟨f - 1, by omega⟩
    obtain ⟨h2, e2, o2, q2⟩ := fill_L hn x k m f (mm_si h 2 i x) (i + 1) (by omega) (by omega) hG.si (fun j hj => by
      by_cases e : j = i
      · subst e; rw [si_s]
      · rw [si_o2 e]; exact q j (by omega))
    refine ⟨h2, ?_, (Only.si (P := fun a => a = 2) rfl).tr o2, q2⟩
    rw [f_J7_fill_53178_L5, in_le (by omega) (by omega), if_neg (by omega), sI_g hG (by decide) (by decide) (show i < 28 by omega), bS, cl_add]
    exact e2
theorem fill_eq {x : Int32} (hG : Gr h) : ∃ h', f_J7_fill_53178 h 2 x = some h' ∧ Only h h' (fun a => a = 2) ∧ ∀ j, j < 28 → mm_I h' 2 j = x := by
  obtain ⟨h2, e2, o2, q2⟩ := fill_L (n := 0) (by decide) x (fun he20 => some he20) 28 fuel h 0 rfl (by decide) hG (fun j hj => by omega)
  refine ⟨h2, ?_, o2, q2⟩
  unfold f_J7_fill_53178
  have : aL h 2 = some (nI 28) := by
    unfold aL
    rw [if_pos ⟨by have := hG.1; omega, hG.2.1 2 (by decide)⟩, hG.2.2.1 2 (by decide) (by decide)]
    rfl
  rw [this, bS]
  exact e2
theorem reset_L (k : MH → Option MH) :
    ∀ (m f : Nat) (h : MH) (r : Nat), m + r = 14 → m < f → Gr h → (∀ j, j < r → RowF h j 0 (fun _ _ => 0)) → ∃ h', f_X1_reset_L25 k 1 f h (nI r) = k h' ∧ Only h h' (fun a => 6 ≤ a ∧ a < 90) ∧ ∀ j, j < 14 → RowF h' j 0 (fun _ _ => 0)
  | 0, f, h, r, hm, hf, hG, q => by
    obtain ⟨f, rfl⟩ : ∃ g, f = g + 1 := ⟨f - 1, by omega⟩
    exact ⟨h, by rw [f_X1_reset_L25, it_le2 (by omega) (by decide), if_pos (by omega)], Only.rf, fun j hj => q j (by omega)⟩
  | m + 1, f, h, r, hm, hf, hG, q => by
    obtain ⟨f, rfl⟩ : ∃ g, f = g + 1 := ⟨f - 1, by omega⟩
    obtain ⟨h1, e1, o1, F1⟩ := clearR_eq (r := r) hG (by omega) (fun _ _ => 0)
    obtain ⟨h2, e2, o2, q2⟩ := reset_L k m f h1 (r + 1) (by omega) (by omega) (o1.Gr hG) (fun j hj => by
      by_cases e : j = r
      · subst e; exact F1
      · obtain ⟨⟨a, b⟩, c⟩ := q j (by omega)
        refine ⟨⟨by rw [o1.2.2.2.2.2 _ (by unfold InRow; omega)]; exact a, fun i hi => by omega⟩, fun mm hm => by rw [o1.2.2.2.2.2 _ (by unfold InRow; omega)]; exact c mm hm⟩)
    refine ⟨h2, ?_, (o1.mono (fun a q => by unfold InRow at q; omega)).tr o2, q2⟩
    rw [f_X1_reset_L25, it_le2 (by omega) (by decide), if_neg (by omega), gR_g hG (by decide) (by decide) (show gr 1 2 = some 4 from rfl), bS, aR_g hG (by decide) (by decide) (show r < 14 by omega) (hG.2.2.2 4 _ _ (by decide) (gr_rows (by omega))), bS, e1, bS, cl_add]
    exact e2
theorem cnt_0 {p : Nat → Bool} : ∀ n, (∀ j, j < n → p j = false) → cntS p n = 0
  | 0, _ => rfl
  | n + 1, h => by rw [cntS, cnt_0 n (fun j hj => h j (by omega)), h n (by omega)]; rfl
theorem x_net (hz : OkZ z) (C : CX h z) (x : Int32) : ∃ h', f_X9_net h 0 x = some ((opNet z x).1, h') ∧ CX h' (opNet z x).2 ∧ CF h h' := by
  have C0 := C
  obtain ⟨hG, J, L, N, P, W, RR⟩ := C
  have R := J.1
  unfold f_X9_net
  repeat (first | rw [gK_g hG (by decide) (by decide)] | rw [gI_g hG (by decide) (by decide)] | rw [gR_g hG (by decide) (by decide) (by rfl)] | rw [bS])
  rcases idx_cases x 8 (by decide) with ⟨n, hn, rfl, i1⟩ | ⟨-, i1, c⟩
  · rw [it_lt1 (by omega) (by decide), it_le1 (by omega) (by decide)]
    by_cases c0 : n = 0
    · have e : opNet z (nI n) = (0, z) := by unfold opNet; rw [i1]; exact if_pos c0
      rw [e, if_pos (by omega)]
      exact ⟨h, rfl, C0, CF.rf⟩
    · have e : opNet z (nI n) = (1, freshZ z (netA n)) := by unfold opNet; rw [i1]; exact if_neg c0
      rw [e, if_neg (by omega), if_pos (by omega)]
      have o1 : Only h (mm_si (mm_si (mm_si h 1 6 (nI n)) 1 7 0) 1 8 0) (fun a => a < 91) := ((Only.si (P := fun a => a < 91) (by decide)).tr (Only.si (by decide))).tr (Only.si (by decide))
      obtain ⟨h2, e2, o2, q2⟩ := fill_eq (h := mm_si (mm_si (mm_si h 1 6 (nI n)) 1 7 0) 1 8 0) (x := -1) hG.si.si.si
      obtain ⟨h3, e3, o3, q3⟩ := reset_L (fun he46 => some he46) 14 fuel h2 0 rfl (by decide) (o2.Gr hG.si.si.si) (fun j hj => by omega)
      have G3 := o3.Gr (o2.Gr hG.si.si.si)
      have o123 : Only h h3 (fun a => a < 91) := (o1.tr (o2.mono (fun a q => by omega))).tr (o3.mono (fun a q => by omega))
      have o4 : Only h (mm_si h3 90 7 0) (fun a => a < 91) := o123.tr (Only.si (by decide))
      have e1f : ∀ k, mm_I (mm_si h3 90 7 0) 1 k = mm_I (mm_si (mm_si (mm_si h 1 6 (nI n)) 1 7 0) 1 8 0) 1 k := fun k => by
        rw [si_o (by decide), o3.2.2.2.2.2 1 (by decide), o2.2.2.2.2.2 1 (by decide)]
      have R4 : RX (mm_si h3 90 7 0) (netA n) := by
        refine ⟨⟨?_, ?_, fun k hk => ?_, fun i hi => ?_⟩, fun r hr => ?_, by rw [si_s]; rfl, fun i hi => ?_⟩
        · rw [e1f, si_o2 (by decide), si_o2 (by decide), si_s]; rfl
        · rw [e1f, si_o2 (by decide), si_s]; rfl
        · rw [si_o (by decide), o3.2.2.2.2.2 2 (by decide), q2 k hk]; rfl
        · exact absurd hi (Nat.not_lt_zero _)
        · obtain ⟨⟨a, b⟩, c⟩ := q3 r hr
          exact ⟨by rw [si_o (by omega)]; exact a, fun i hi => absurd hi (Nat.not_lt_zero _), fun m hm => by rw [si_o (by omega)]; exact c m hm⟩
        · exact absurd hi (Nat.not_lt_zero _)
      have lk : lkS (netA n) = 0 := by rw [lkS_def]; exact cnt_0 28 (fun j hj => rfl)
      obtain ⟨h5, e5, C5, F5, G5, R5⟩ := fin C0 o4 (fun a q => by omega) R4 (by rw [e1f, si_s, lk]; rfl)
      refine ⟨h5, ?_, C5, F5⟩
      unfold f_X1_reset f_X0_dropWants
      rw [gK_g hG (by decide) (by decide), pI_g hG (by decide) (by decide), bS, pI_g hG.si (by decide) (by decide), bS, pI_g hG.si.si (by decide) (by decide), bS, gR_g hG.si.si.si (by decide) (by decide) (show gr 1 0 = some 2 from rfl), bS, e2, bS]
      rw [show f_X1_reset_L25 (fun he46 => some he46) 1 fuel h2 (0 : Int32) = some h3 from e3, bS]
      repeat (first | rw [gK_g G3 (by decide) (by decide)] | rw [gI_g G3 (by decide) (by decide)] | rw [gR_g G3 (by decide) (by decide) (by rfl)] | rw [bS])
      rw [pI_g G3 (by decide) (by decide), bS, bS, e5, bS]
  · have e : opNet z x = (0, z) := by unfold opNet; rw [i1]
    rw [e]
    refine ⟨h, ?_, C0, CF.rf⟩
    by_cases c0 : x < 1
    · rw [if_pos c0]
    · rw [if_neg c0, if_neg (fun q => ?_)]
      have q : x ≤ nI 7 := q
      have c0 : ¬ x < nI 1 := c0
      rw [Int32.le_iff_toInt_le, nI_toInt (by decide)] at q
      rw [Int32.lt_iff_toInt_lt, nI_toInt (by decide)] at c0
      rcases c with c | c
      · have c : x < nI 0 := c
        rw [Int32.lt_iff_toInt_lt, nI_toInt (by decide)] at c
        omega
      · rw [Int32.le_iff_toInt_le, nI_toInt (by decide)] at c
        omega
end

/-! ===== unplug, want, unwant of the class ===== -/
section
variable {h : MH} {z : ZS}
theorem target_eq {x : Int32} : f_X9_hasTarget h x = some (b2 (x == 0 || x == 2 || x == 3)) := by
  unfold f_X9_hasTarget
  by_cases c0 : x = 0
  · rw [if_pos c0]; simp [c0, b2]
  · rw [if_neg c0]
    by_cases c2 : x = 2
    · rw [if_pos c2]; simp [c2, b2]
    · rw [if_neg c2]
      by_cases c3 : x = 3
      · rw [if_pos c3]; simp [c3, b2]
      · rw [if_neg c3]; simp [c0, c2, c3, b2]
theorem needsW_eq {A : SA} {i o x : Nat} (w : WantAt h A i o) : f_X7_needsHost h o (nI x) = some (b2 (ofH A x i)) := by
  unfold f_X7_needsHost ofH
  rw [gK_o w, gI_o w (by decide), bS]
  by_cases c3 : sx A i 3 = nI x
  · rw [if_pos c3]; simp [c3, b2]
  · rw [if_neg c3, gI_o w (by decide), bS, target_eq, bS, b2_it]
    by_cases c0 : (sx A i 0 == 0 || sx A i 0 == 2 || sx A i 0 == 3) = true
    · rw [if_pos c0, gI_o w (by decide), bS, c0]
      by_cases c4 : sx A i 4 = nI x
      · rw [if_pos c4]; simp [c4, b2]
      · rw [if_neg c4]; simp [c3, c4, b2]
    · rw [if_neg c0]
      have c0 : (sx A i 0 == 0 || sx A i 0 == 2 || sx A i 0 == 3) = false := by simpa using c0
      rw [c0]; simp [c3, b2]
theorem needs_L {A : SA} {x : Nat} (hG : Gr h) (hA : OkA A) (R : RX h A) :
    ∀ (n f i : Nat), n + i = sw A → n < f → f_X0_needsHost_L2 (some 0) h 90 (nI x) f (nI i) = some (b2 (anyF (ofH A x) n i))
  | 0, f, i, hn, hf => by
    have h10 := hA.2.2.2.2.2.2.1
    obtain ⟨f, rfl⟩ : ∃ g, f = g + 1 := ⟨f - 1, by omega⟩
    rw [f_X0_needsHost_L2, gI_g hG (by decide) (by decide), bS, R.2.2.1, in_le (by omega) (by omega), if_pos (by omega)]; rfl
  | n + 1, f, i, hn, hf => by
    have h10 := hA.2.2.2.2.2.2.1
    obtain ⟨f, rfl⟩ : ∃ g, f = g + 1 := ⟨f - 1, by omega⟩
    obtain ⟨o, wt⟩ := R.2.2.2 i (by omega)
    have wt : WantAt h A i o := wt
    have ih := needs_L (x := x) hG hA R n f (i + 1) (by omega) (by omega)
    rw [f_X0_needsHost_L2, gI_g hG (by decide) (by decide), bS, R.2.2.1, in_le (by omega) (by omega), if_neg (by omega), gR_g hG (by decide) (by decide) (show gr 90 1 = some 91 from rfl), bS, aR_g hG (by decide) (by decide) (show i < 10 by omega) wt.1, bS, needsW_eq wt, bS, b2_it, cl_add, ih, anyF]
    cases ofH A x i <;> rfl
theorem needs_eq {A : SA} {x : Nat} (hG : Gr h) (hA : OkA A) (R : RX h A) : f_X0_needsHost h 90 (nI x) = some (b2 (anyF (ofH A x) (sw A) 0)) := by
  unfold f_X0_needsHost
  rw [gK_g hG (by decide) (by decide)]
  exact needs_L hG hA R (sw A) fuel 0 (by omega) (by have := hA.2.2.2.2.2.2.1; unfold fuel; omega)
theorem x_unplug (hz : OkZ z) (C : CX h z) (a b : Int32) : ∃ h', f_X9_unplug h 0 a b = some ((opUnplug z a b).1, h') ∧ CX h' (opUnplug z a b).2 ∧ CF h h' := by
  have C0 := C
  obtain ⟨hG, J, L, N, P, W, RR⟩ := C
  have R := J.1
  have hA := hz.1
  have h7 := hA.2.1
  have h6 := hA.2.2.1
  have hLk := hz.2.1
  have no : ∀ {x : Option (Int32 × MH)}, opUnplug z a b = (0, z) → x = some (0, h) → ∃ h', x = some ((opUnplug z a b).1, h') ∧ CX h' (opUnplug z a b).2 ∧ CF h h' := fun e ea => by
    rw [e]; exact ⟨h, ea, C0, CF.rf⟩
  unfold f_X9_unplug f_X1_hostCount
  repeat (first | rw [gK_g hG (by decide) (by decide)] | rw [gI_g hG (by decide) (by decide)] | rw [gR_g hG (by decide) (by decide) (by rfl)] | rw [bS])
  rcases hasPort_eq hG hA R a b with ⟨s, p, hs, hp, rfl, rfl, e0⟩ | ⟨q, e0⟩
  · have hk : 4 * s + p < 28 := by omega
    have ok := hA.2.2.2.1 (4 * s + p) hk
    have i1 := idx_nI hs (show sn (zA z) < 2 ^ 31 by omega)
    have i2 := idx_nI hp (show 4 < 2 ^ 31 by decide)
    have eo : opUnplug z (nI s) (nI p) = (if sp (zA z) (4 * s + p) = 0 then ((0 : Int32), z) else if sp (zA z) (4 * s + p) < 100 then (1, freshZ z (unlA (zA z) (4 * s + p) (sp (zA z) (4 * s + p) - 1))) else if sp (zA z) (4 * s + p) + 1 = 100 + sh (zA z) ∧ (∀ i, i < sw (zA z) → ofH (zA z) (sh (zA z) - 1) i = false) then (1, freshZ z (unhA (zA z) (4 * s + p))) else (0, z)) := by
      unfold opUnplug; rw [i1, i2]
    rw [e0, bS, if_neg (by decide)]
    repeat (first | rw [gK_g hG (by decide) (by decide)] | rw [gI_g hG (by decide) (by decide)] | rw [gR_g hG (by decide) (by decide) (by rfl)] | rw [bS])
    have epc := R.1.2.2.1 (4 * s + p) hk
    have efree : f_X1_isFree h 1 (nI s) (nI p) = some (if sp (zA z) (4 * s + p) = 0 then 1 else 0) := by
      unfold f_X1_isFree
      rw [gK_g hG (by decide) (by decide), e0, bS, if_neg (by decide), gR_g hG (by decide) (by decide) (show gr 1 0 = some 2 from rfl), bS, cl_mul, nI_add, show s * 4 + p = 4 * s + p by omega, aI_g hG (by decide) (by decide) (show 4 * s + p < 28 by omega), bS, epc]
      by_cases c : sp (zA z) (4 * s + p) = 0
      · rw [if_pos ((pcI_m1 hA hk).mpr c), if_pos c]
      · rw [if_neg (fun z => c ((pcI_m1 hA hk).mp z)), if_neg c]
    rw [efree, bS, it_b1']
    by_cases c0 : sp (zA z) (4 * s + p) = 0
    · exact no (by rw [eo, if_pos c0]) (by rw [if_pos c0])
    · rw [if_neg c0]
      repeat (first | rw [gK_g hG (by decide) (by decide)] | rw [gI_g hG (by decide) (by decide)] | rw [gR_g hG (by decide) (by decide) (by rfl)] | rw [bS])
      by_cases c1 : sp (zA z) (4 * s + p) < 100
      · -- a link
        have hlk : isLk (zA z) (4 * s + p) = true := by unfold isLk; simp; omega
        obtain ⟨ne, back⟩ := hLk.1 (4 * s + p) hk hlk
        have hq : sp (zA z) (4 * s + p) - 1 < 28 := by omega
        have eh : f_X1_hostAt h 1 (nI s) (nI p) = some (-1) := by
          unfold f_X1_hostAt
          rw [gK_g hG (by decide) (by decide), e0, bS, if_neg (by decide), gR_g hG (by decide) (by decide) (show gr 1 0 = some 2 from rfl), bS, cl_mul, nI_add, show s * 4 + p = 4 * s + p by omega, aI_g hG (by decide) (by decide) (show 4 * s + p < 28 by omega), bS, epc]
          unfold pcI
          rw [if_neg c0, if_pos c1, it_le2 (by omega) (by decide), if_neg (by omega)]
        rw [eh, bS, if_pos rfl, eo, if_neg c0, if_pos c1]
        have lk : lkS (zA z) = lkS (unlA (zA z) (4 * s + p) (sp (zA z) (4 * s + p) - 1)) + 2 := by
          rw [lkS_def, lkS_def]
          show _ = cntS (lkP (va_up (va_up (sp (zA z)) (sp (zA z) (4 * s + p) - 1) 0) (4 * s + p) 0)) 28 + 2
          rw [lk_dn hq (by unfold lkP; rw [back]; simp; omega), lk_dn (f := va_up (sp (zA z)) (sp (zA z) (4 * s + p) - 1) 0) hk (by unfold lkP; rw [va_up_ne _ _ (Ne.symm ne)]; simp; omega)]
        have ll := lkS_le (zA z)
        have o1 : Only h (mm_si (mm_si (mm_si h 2 (sp (zA z) (4 * s + p) - 1) (-1)) 1 8 (nI (lkS (zA z) / 2 - 1))) 2 (4 * s + p) (-1)) (fun a => a = 1 ∨ a = 2 ∨ a = 3) := ((Only.si (P := fun a => a = 1 ∨ a = 2 ∨ a = 3) (Or.inr (Or.inl rfl))).tr (Only.si (Or.inl rfl))).tr (Only.si (Or.inr (Or.inl rfl)))
        have N1 : RXn (mm_si (mm_si (mm_si h 2 (sp (zA z) (4 * s + p) - 1) (-1)) 1 8 (nI (lkS (zA z) / 2 - 1))) 2 (4 * s + p) (-1)) (unlA (zA z) (4 * s + p) (sp (zA z) (4 * s + p) - 1)) := by
          refine ⟨by rw [si_o (by decide), si_o2 (by decide), si_o (by decide)]; exact R.1.1, by rw [si_o (by decide), si_o2 (by decide), si_o (by decide)]; exact R.1.2.1, fun k hk => ?_, fun i hi => by rw [si_o (by decide), si_o (by decide), si_o (by decide)]; exact R.1.2.2.2 i hi⟩
          show _ = pcI (va_up (va_up (sp (zA z)) (sp (zA z) (4 * s + p) - 1) 0) (4 * s + p) 0 k)
          by_cases k1 : k = 4 * s + p
          · rw [k1, si_s, va_up_self]; rfl
          · rw [si_o2 k1, va_up_ne _ _ k1, si_o (by decide)]
            by_cases k2 : k = sp (zA z) (4 * s + p) - 1
            · rw [k2, si_s, va_up_self]; rfl
            · rw [si_o2 k2, va_up_ne _ _ k2]; exact R.1.2.2.1 k hk
        obtain ⟨h2, e2, C2, F2, G2, R2⟩ := fin C0 o1 (fun a q => by omega) (R.port o1 N1 rfl rfl rfl rfl) (by rw [si_o (by decide), si_s]; congr 1; omega)
        refine ⟨h2, ?_, C2, F2⟩
        unfold f_X9_unplug_j67 f_X1_clear
        repeat (first | rw [gK_g hG (by decide) (by decide)] | rw [gI_g hG (by decide) (by decide)] | rw [gR_g hG (by decide) (by decide) (by rfl)] | rw [bS])
        rw [e0, bS, if_neg (by decide), cl_mul, nI_add, show s * 4 + p = 4 * s + p by omega, aI_g hG (by decide) (by decide) (show 4 * s + p < 28 by omega), bS, epc]
        have ep : pcI (sp (zA z) (4 * s + p)) = nI (sp (zA z) (4 * s + p) - 1) := by unfold pcI; rw [if_neg c0, if_pos c1]
        rw [ep, it_lt1 (by omega) (by decide), if_pos (by omega), it_neg (by omega), it_le2 (by omega) (by decide), if_neg (by omega), bS, show (2 + 0 : Nat) = 2 from rfl, sI_g hG (by decide) (by decide) (show sp (zA z) (4 * s + p) - 1 < 28 from hq), bS, gI_g hG.si (by decide) (by decide), bS, si_o (by decide), N, cl_sub (by omega), pI_g hG.si (by decide) (by decide), bS]
        unfold f_X1_clear_j67
        rw [gR_g hG.si.si (by decide) (by decide) (show gr 1 0 = some 2 from rfl), bS, cl_mul, nI_add, show s * 4 + p = 4 * s + p by omega, sI_g hG.si.si (by decide) (by decide) (show 4 * s + p < 28 from hk), bS, bS, e2, bS]
      · -- a host
        have hh : 100 ≤ sp (zA z) (4 * s + p) ∧ sp (zA z) (4 * s + p) < 100 + sh (zA z) := by omega
        have ep : pcI (sp (zA z) (4 * s + p)) = nI (sp (zA z) (4 * s + p)) := by unfold pcI; rw [if_neg c0, if_neg c1]
        have eh : f_X1_hostAt h 1 (nI s) (nI p) = some (nI (sp (zA z) (4 * s + p) - 100)) := by
          unfold f_X1_hostAt
          rw [gK_g hG (by decide) (by decide), e0, bS, if_neg (by decide), gR_g hG (by decide) (by decide) (show gr 1 0 = some 2 from rfl), bS, cl_mul, nI_add, show s * 4 + p = 4 * s + p by omega, aI_g hG (by decide) (by decide) (show 4 * s + p < 28 by omega), bS, epc, ep, it_le2 (by omega) (by decide), if_pos (by omega), bS, aI_g hG (by decide) (by decide) (show 4 * s + p < 28 by omega), bS, epc, ep, cl_sub (by omega)]
        rw [eh, bS, it_m1 (by omega)]
        repeat (first | rw [gK_g hG (by decide) (by decide)] | rw [gI_g hG (by decide) (by decide)] | rw [gR_g hG (by decide) (by decide) (by rfl)] | rw [bS])
        rw [R.1.2.1, cl_sub (by omega), in_eq (by omega) (by omega), eo, if_neg c0, if_neg c1]
        by_cases c2 : sp (zA z) (4 * s + p) - 100 = sh (zA z) - 1
        · rw [if_pos c2, c2, needs_eq hG hA R, bS, b2_it]
          by_cases c3 : anyF (ofH (zA z) (sh (zA z) - 1)) (sw (zA z)) 0 = true
          · rw [if_pos c3, if_neg]
            · exact ⟨h, rfl, C0, CF.rf⟩
            · rintro ⟨-, q⟩
              obtain ⟨j, h1, h2, h3⟩ := (anyF_iff _ _ _).mp c3
              rw [q j (by omega)] at h3; cases h3
          · rw [if_neg c3, if_pos]
            · have lk : lkS (unhA (zA z) (4 * s + p)) = lkS (zA z) := by
                rw [lkS_def, lkS_def]
                exact lk_eq (by unfold lkP; simp; omega) (Or.inl rfl)
              have o1 : Only h (mm_si (mm_si h 1 7 (nI (sh (zA z) - 1))) 2 (4 * s + p) (-1)) (fun a => a = 1 ∨ a = 2 ∨ a = 3) := (Only.si (P := fun a => a = 1 ∨ a = 2 ∨ a = 3) (Or.inl rfl)).tr (Only.si (Or.inr (Or.inl rfl)))
              have N1 : RXn (mm_si (mm_si h 1 7 (nI (sh (zA z) - 1))) 2 (4 * s + p) (-1)) (unhA (zA z) (4 * s + p)) := by
                refine ⟨by rw [si_o (by decide), si_o2 (by decide)]; exact R.1.1, by rw [si_o (by decide), si_s]; rfl, fun k hk => ?_, fun i hi => by rw [si_o (by decide), si_o (by decide)]; exact R.1.2.2.2 i (Nat.lt_of_lt_of_le hi (Nat.sub_le _ _))⟩
                show _ = pcI (va_up (sp (zA z)) (4 * s + p) 0 k)
                by_cases k1 : k = 4 * s + p
                · rw [k1, si_s, va_up_self]; rfl
                · rw [si_o2 k1, va_up_ne _ _ k1, si_o (by decide)]; exact R.1.2.2.1 k hk
              obtain ⟨h2, e2, C2, F2, G2, R2⟩ := fin C0 o1 (fun a q => by omega) (R.port o1 N1 rfl rfl rfl rfl) (by rw [si_o (by decide), si_o2 (by decide), lk]; exact N)
              refine ⟨h2, ?_, C2, F2⟩
              unfold f_X9_unplug_j67 f_X1_clear
              repeat (first | rw [gK_g hG (by decide) (by decide)] | rw [gI_g hG (by decide) (by decide)] | rw [gR_g hG (by decide) (by decide) (by rfl)] | rw [bS])
              rw [e0, bS, if_neg (by decide), cl_mul, nI_add, show s * 4 + p = 4 * s + p by omega, aI_g hG (by decide) (by decide) (show 4 * s + p < 28 by omega), bS, epc, ep, it_lt1 (by omega) (by decide), if_neg (by omega), R.1.2.1, cl_sub (by omega), pI_g hG (by decide) (by decide), bS]
              unfold f_X1_clear_j67
              rw [gR_g hG.si (by decide) (by decide) (show gr 1 0 = some 2 from rfl), bS, cl_mul, nI_add, show s * 4 + p = 4 * s + p by omega, sI_g hG.si (by decide) (by decide) (show 4 * s + p < 28 from hk), bS, bS, e2, bS]
            · refine ⟨by omega, fun i hi => ?_⟩
              cases hf : ofH (zA z) (sh (zA z) - 1) i with
              | false => rfl
              | true => exact absurd ((anyF_iff _ _ _).mpr ⟨i, by omega, by omega, hf⟩) c3
        · rw [if_neg c2, if_neg (fun q => c2 (by omega))]
          exact ⟨h, rfl, C0, CF.rf⟩
  · refine no ?_ (by rw [e0, bS, if_pos rfl])
    unfold opUnplug
    rcases idx_cases a (sn (zA z)) (by omega) with ⟨s, hs, ea, i1⟩ | ⟨-, i1, -⟩
    · rcases idx_cases b 4 (by decide) with ⟨p, hp, eb, i2⟩ | ⟨-, i2, -⟩
      · exact absurd ⟨ea, eb⟩ (q s p hs hp)
      · rw [i1, i2]
    · rw [i1]
/-- heaps grown by a want -/
theorem Gr.no {h : MH} (hG : Gr h) (ci : Nat) : Gr (mm_no h ci) := by
  obtain ⟨g1, g2, g3, g4⟩ := hG
  refine ⟨Nat.le_succ_of_le g1, fun a ha => ?_, g3, fun a k b ha hr => ?_⟩
  · show va_up (mm_K h) (mm_N h) ci a = gk a
    rw [va_up_ne _ _ (by omega)]; exact g2 a ha
  · show va_up (mm_R h) (mm_N h) (fun _ => none) a k = some b
    rw [va_up_ne _ _ (by omega)]; exact g4 a k b ha hr
theorem Gr.sr91 {h : MH} (hG : Gr h) (k : Nat) (x : Option Nat) : Gr (mm_sr h 91 k x) := by
  obtain ⟨g1, g2, g3, g4⟩ := hG
  refine ⟨g1, g2, g3, fun a j b ha hr => ?_⟩
  rw [sr_R, if_neg]
  · exact g4 a j b ha hr
  · rintro ⟨rfl, -⟩
    have : gr 91 j = none := rfl
    rw [this] at hr; cases hr
theorem sR_w {b i : Nat} (hG : Gr h) (hb : b < mm_N h) (hK : mm_K h b = 7) (hi : i < 10) : sR h 91 (nI i) b = some (mm_sr h 91 i (some b)) := by
  have hN := hG.1
  unfold sR
  rw [if_pos ⟨⟨by omega, hb, Or.inr (Or.inr ⟨hG.2.1 91 (by decide), hK⟩)⟩, by rw [hG.2.2.1 91 (by decide) (by decide)]; exact in_ok (show i < 10 from hi) (by decide)⟩, nI_clamp (by omega)]
def wantH (h : MH) (x : Nat → Int32) : MH := mm_si (mm_si (mm_si (mm_si (mm_si (mm_si (mm_no h 7) (mm_N h) 0 (x 0)) (mm_N h) 1 (x 1)) (mm_N h) 2 (x 2)) (mm_N h) 3 (x 3)) (mm_N h) 4 (x 4)) (mm_N h) 5 (x 5)
theorem wantH_K {x : Nat → Int32} : mm_K (wantH h x) (mm_N h) = 7 := va_up_self _ _ _
theorem wantH_Ko {x : Nat → Int32} {a : Nat} (ha : a < mm_N h) : mm_K (wantH h x) a = mm_K h a := va_up_ne _ _ (by omega)
theorem wantH_Ro {x : Nat → Int32} {a : Nat} (ha : a < mm_N h) : mm_R (wantH h x) a = mm_R h a := va_up_ne _ _ (by omega)
theorem wantH_Io {x : Nat → Int32} {a : Nat} (ha : a < mm_N h) : mm_I (wantH h x) a = mm_I h a := by
  funext j
  unfold wantH
  rw [si_o (by omega), si_o (by omega), si_o (by omega), si_o (by omega), si_o (by omega), si_o (by omega)]
  show va_up (mm_I h) (mm_N h) (fun _ => 0) a j = _
  rw [va_up_ne _ _ (by omega)]
theorem wantH_I {x : Nat → Int32} {j : Nat} (hj : j < 6) : mm_I (wantH h x) (mm_N h) j = x j := by
  unfold wantH
  rcases (show j = 0 ∨ j = 1 ∨ j = 2 ∨ j = 3 ∨ j = 4 ∨ j = 5 by omega) with rfl | rfl | rfl | rfl | rfl | rfl
  · rw [si_o2 (by decide), si_o2 (by decide), si_o2 (by decide), si_o2 (by decide), si_o2 (by decide), si_s]
  · rw [si_o2 (by decide), si_o2 (by decide), si_o2 (by decide), si_o2 (by decide), si_s]
  · rw [si_o2 (by decide), si_o2 (by decide), si_o2 (by decide), si_s]
  · rw [si_o2 (by decide), si_o2 (by decide), si_s]
  · rw [si_o2 (by decide), si_s]
  · rw [si_s]
theorem pI_new {k : Nat} {x : Int32} {H : MH} (hN : mm_N h < mm_N H) (hK : mm_K H (mm_N h) = 7) : pI H (mm_N h) 7 k x = some (mm_si H (mm_N h) k x) := by
  unfold pI; rw [if_pos ⟨hN, hK⟩]
theorem wantH_eq {x : Nat → Int32} : f_X7_init (mm_no h 7) (mm_N h) (x 0) (x 1) (x 2) (x 3) (x 4) (x 5) = some (wantH h x) := by
  have hN : mm_N h < mm_N (mm_no h 7) := Nat.lt_succ_self _
  have hK : mm_K (mm_no h 7) (mm_N h) = 7 := va_up_self _ _ _
  unfold f_X7_init wantH
  rw [pI_new hN hK, bS, pI_new (by exact hN) (by exact hK), bS, pI_new (by exact hN) (by exact hK), bS, pI_new (by exact hN) (by exact hK), bS, pI_new (by exact hN) (by exact hK), bS, pI_new (by exact hN) (by exact hK), bS]
theorem wantCount_eq {A : SA} (hG : Gr h) (R : RX h A) : f_X0_wantCount h 90 = some (nI (sw A)) := by
  unfold f_X0_wantCount
  repeat (first | rw [gK_g hG (by decide) (by decide)] | rw [gI_g hG (by decide) (by decide)] | rw [gR_g hG (by decide) (by decide) (by rfl)] | rw [bS])
  rw [R.2.2.1]
theorem x_want (hz : OkZ z) (C : CX h z) (k v b a c s : Int32) : ∃ h', f_X9_want h 0 k v b a c s = some ((opWant z k v b a c s).1, h') ∧ CX h' (opWant z k v b a c s).2 ∧ CF h h' := by
  have C0 := C
  obtain ⟨hG, J, L, N, P, W, RR⟩ := C
  have R := J.1
  have hA := hz.1
  have h7 := hA.2.1
  have h6 := hA.2.2.1
  have h10 := hA.2.2.2.2.2.2.1
  have hN := hG.1
  have no : ∀ {x : Option (Int32 × MH)}, opWant z k v b a c s = (-1, z) → x = some (-1, h) → ∃ h', x = some ((opWant z k v b a c s).1, h') ∧ CX h' (opWant z k v b a c s).2 ∧ CF h h' := fun e ea => by
    rw [e]; exact ⟨h, ea, C0, CF.rf⟩
  have yes : sw (zA z) < 10 → ∃ h', f_X9_want_j83 h 0 k v b a c s = some (nI (sw (zA z)), h') ∧ CX h' (freshZ z (wantA (zA z) (six k v b a c s))) ∧ CF h h' := by
    intro hs10
    have G1 : Gr (wantH h (six k v b a c s)) := (hG.no 7).si.si.si.si.si.si
    have N1 : mm_N (wantH h (six k v b a c s)) = mm_N h + 1 := rfl
    have e90 : mm_I (wantH h (six k v b a c s)) 90 = mm_I h 90 := wantH_Io (by omega)
    have G2 : Gr (mm_si (mm_sr (wantH h (six k v b a c s)) 91 (sw (zA z)) (some (mm_N h))) 90 7 (nI (sw (zA z) + 1))) := (G1.sr91 _ _).si
    have Io : ∀ x, x < mm_N h → x ≠ 90 → ∀ j, mm_I (mm_si (mm_sr (wantH h (six k v b a c s)) 91 (sw (zA z)) (some (mm_N h))) 90 7 (nI (sw (zA z) + 1))) x j = mm_I h x j := by
      intro x hx h9 j
      rw [si_o h9, sr_I, wantH_Io hx]
    have R2 : RX (mm_si (mm_sr (wantH h (six k v b a c s)) 91 (sw (zA z)) (some (mm_N h))) 90 7 (nI (sw (zA z) + 1))) (wantA (zA z) (six k v b a c s)) := by
      obtain ⟨⟨n1, n2, n3, n4⟩, rr, w1, w2⟩ := R
      refine ⟨⟨by rw [Io 1 (by omega) (by decide)]; exact n1, by rw [Io 1 (by omega) (by decide)]; exact n2, fun k hk => by rw [Io 2 (by omega) (by decide)]; exact n3 k hk, fun i hi => by rw [Io 3 (by omega) (by decide)]; exact n4 i hi⟩, fun q hq => ?_, by rw [si_s]; rfl, fun i hi => ?_⟩
      · obtain ⟨r1, r2, r3⟩ := rr q hq
        exact ⟨by rw [Io _ (by omega) (by omega)]; exact r1, fun i hi j hj => by rw [Io _ (by omega) (by omega)]; exact r2 i hi j hj, fun m hm => by rw [Io _ (by omega) (by omega)]; exact r3 m hm⟩
      · have hi : i < sw (zA z) + 1 := hi
        by_cases ei : i = sw (zA z)
        · refine ⟨mm_N h, ?_, ?_, ?_, fun j hj => ?_, hN⟩
          · rw [si_R, sr_R, if_pos ⟨rfl, ei⟩]
          · rw [si_N, sr_N, N1]; omega
          · rw [si_K, sr_K]; exact wantH_K
          · rw [si_o (by omega), sr_I, wantH_I hj]
            show _ = va_up (sx (zA z)) (sw (zA z)) (six k v b a c s) i j
            rw [ei, va_up_self]
        · obtain ⟨o, p1, p2, p3, p4, p5⟩ := w2 i (by omega)
          refine ⟨o, ?_, ?_, ?_, fun j hj => ?_, p5⟩
          · rw [si_R, sr_R, if_neg (fun q => ei q.2), wantH_Ro (by omega)]; exact p1
          · rw [si_N, sr_N, N1]; omega
          · rw [si_K, sr_K, wantH_Ko p2]; exact p3
          · rw [Io o p2 (by omega)]
            show _ = va_up (sx (zA z)) (sw (zA z)) (six k v b a c s) i j
            rw [va_up_ne _ _ ei]; exact p4 j hj
    have W2 : WayIs (mm_si (mm_sr (wantH h (six k v b a c s)) 91 (sw (zA z)) (some (mm_N h))) 90 7 (nI (sw (zA z) + 1))) 228 (zT z).1 (zT z).2 := by
      obtain ⟨a1, a2, a3, a4⟩ := W
      exact ⟨by rw [Io _ (by omega) (by decide)]; exact a1, by rw [Io _ (by omega) (by decide)]; exact a2, by rw [Io _ (by omega) (by decide)]; exact a3, fun i s hi => by rw [Io _ (by omega) (by decide)]; exact a4 i s hi⟩
    obtain ⟨h3, e3, C3, n3, s3, f3⟩ := startAfresh_eq (z := z) G2 R2 (by rw [Io 1 (by omega) (by decide)]; exact N) W2
    refine ⟨h3, ?_, C3, ⟨by rw [n3]; exact Nat.le_refl _, by rw [s3]; exact Nat.le_refl _, fun x h1 h2 => ?_⟩⟩
    · unfold f_X9_want_j83 f_X0_addWant
      repeat (first | rw [gK_g hG (by decide) (by decide)] | rw [gI_g hG (by decide) (by decide)] | rw [gR_g hG (by decide) (by decide) (by rfl)] | rw [bS])
      have ew : f_X7_init (mm_no h 7) (mm_N h) k v b a c s = some (wantH h (six k v b a c s)) := wantH_eq (x := six k v b a c s)
      rw [ew, bS, gK_g G1 (by decide) (by decide), gI_g G1 (by decide) (by decide), bS, e90, R.2.2.1, it_le2 (by omega) (by decide), if_neg (by omega), gR_g G1 (by decide) (by decide) (show gr 90 1 = some 91 from rfl), bS, bS, sR_w G1 (by rw [N1]; omega) wantH_K hs10, bS, gI_g (G1.sr91 _ _) (by decide) (by decide), bS, sr_I, e90, R.2.2.1, cl_add, pI_g (G1.sr91 _ _) (by decide) (by decide), bS, bS, e3, bS, gR_g C3.1 (by decide) (by decide) (show gr 0 1 = some 90 from rfl), bS, wantCount_eq C3.1 C3.2.1.1, bS, show sw (zA (freshZ z (wantA (zA z) (six k v b a c s)))) = sw (zA z) + 1 from rfl, cl_sub (by omega)]
      rfl
    · funext j
      rw [f3 x (by unfold FrS; omega), Io x (by omega) (by omega)]
  unfold f_X9_want
  repeat (first | rw [gK_g hG (by decide) (by decide)] | rw [gI_g hG (by decide) (by decide)] | rw [gR_g hG (by decide) (by decide) (by rfl)] | rw [bS])
  rcases idx_cases k 5 (by decide) with ⟨kk, hk, rfl, i1⟩ | ⟨-, i1, ck⟩
  · rw [it_neg (by omega), it_lt2 (by omega) (by decide), if_neg (by omega)]
    rcases idx_cases v 16 (by decide) with ⟨vv, hv, rfl, i2⟩ | ⟨-, i2, cv⟩
    · rcases idx_cases b 16 (by decide) with ⟨bb, hb, rfl, i3⟩ | ⟨-, i3, cb⟩
      · rw [isSpan_y hv hb, bS, if_neg (by decide)]
        repeat (first | rw [gK_g hG (by decide) (by decide)] | rw [gI_g hG (by decide) (by decide)] | rw [gR_g hG (by decide) (by decide) (by rfl)] | rw [bS])
        rcases idx_cases a (sh (zA z)) (by omega) with ⟨aa, ha, rfl, i4⟩ | ⟨-, i4, ca⟩
        · have eo : opWant z (nI kk) (nI vv) (nI bb) (nI aa) c s = (if sw (zA z) = 10 ∨ ((kk = 0 ∨ kk = 2 ∨ kk = 3) ∧ idx c (sh (zA z)) = none) ∨ (kk = 3 ∧ idx s (sn (zA z)) = none) then ((-1 : Int32), z) else (nI (sw (zA z)), freshZ z (wantA (zA z) (six (nI kk) (nI vv) (nI bb) (nI aa) c s)))) := by
            unfold opWant; rw [i1, i2, i3, i4]
          rw [hasHost_y hG hA R ha, bS, if_neg (by decide)]
          repeat (first | rw [gK_g hG (by decide) (by decide)] | rw [gI_g hG (by decide) (by decide)] | rw [gR_g hG (by decide) (by decide) (by rfl)] | rw [bS])
          rw [wantCount_eq hG R, bS, it_lt1 (by omega) (by decide)]
          by_cases c10 : sw (zA z) = 10
          · exact no (by rw [eo, if_pos (Or.inl c10)]) (by rw [if_neg (by omega)])
          · rw [if_pos (by omega), target_eq, bS, b2_it]
            obtain ⟨h', e', C', F'⟩ := yes (by omega)
            have hkk : ((nI kk == (0 : Int32) || nI kk == 2 || nI kk == 3) = true) ↔ (kk = 0 ∨ kk = 2 ∨ kk = 3) := by
              rcases (show kk = 0 ∨ kk = 1 ∨ kk = 2 ∨ kk = 3 ∨ kk = 4 by omega) with rfl | rfl | rfl | rfl | rfl <;> decide
            have j64 : ¬ ((kk = 0 ∨ kk = 2 ∨ kk = 3) ∧ idx c (sh (zA z)) = none) → ∃ h', f_X9_want_j64 h 0 (nI kk) (nI vv) (nI bb) (nI aa) c s = some ((opWant z (nI kk) (nI vv) (nI bb) (nI aa) c s).1, h') ∧ CX h' (opWant z (nI kk) (nI vv) (nI bb) (nI aa) c s).2 ∧ CF h h' := by
              intro hn
              unfold f_X9_want_j64
              rw [it_eq1 (by omega) (by decide)]
              by_cases c3 : kk = 3
              · rw [if_pos c3]
                repeat (first | rw [gK_g hG (by decide) (by decide)] | rw [gI_g hG (by decide) (by decide)] | rw [gR_g hG (by decide) (by decide) (by rfl)] | rw [bS])
                rcases idx_cases s (sn (zA z)) (by omega) with ⟨ss, hs, rfl, i5⟩ | ⟨-, i5, cs⟩
                · rw [hasSw_y hG hA R hs, bS, if_neg (by decide), eo, if_neg (by rw [i5]; rintro (q | q | q); exact c10 q; exact hn q; cases q.2)]
                  exact ⟨h', e', C', F'⟩
                · rw [hasSw_n hG R cs, bS, if_pos rfl]
                  exact no (by rw [eo, if_pos (Or.inr (Or.inr ⟨c3, i5⟩))]) rfl
              · rw [if_neg c3, eo, if_neg (by rintro (q | q | q); exact c10 q; exact hn q; exact c3 q.1)]
                exact ⟨h', e', C', F'⟩
            by_cases ct : kk = 0 ∨ kk = 2 ∨ kk = 3
            · rw [if_pos (hkk.mpr ct)]
              repeat (first | rw [gK_g hG (by decide) (by decide)] | rw [gI_g hG (by decide) (by decide)] | rw [gR_g hG (by decide) (by decide) (by rfl)] | rw [bS])
              rcases idx_cases c (sh (zA z)) (by omega) with ⟨cc, hc, rfl, i5⟩ | ⟨-, i5, cs⟩
              · rw [hasHost_y hG hA R hc, bS, if_neg (by decide)]
                exact j64 (fun q => by rw [i5] at q; cases q.2)
              · rw [hasHost_n hG R cs, bS, if_pos rfl]
                exact no (by rw [eo, if_pos (Or.inr (Or.inl ⟨ct, i5⟩))]) rfl
            · rw [if_neg (fun q => ct (hkk.mp q))]
              exact j64 (fun q => ct q.1)
        · exact no (by unfold opWant; rw [i1, i2, i3, i4]) (by rw [hasHost_n hG R ca, bS, if_pos rfl])
      · exact no (by unfold opWant; rw [i1, i2, i3]) (by rw [isSpan_n2 hv cb, bS, if_pos rfl])
    · exact no (by unfold opWant; rw [i1, i2]) (by rw [isSpan_n1 cv, bS, if_pos rfl])
  · refine no (by unfold opWant; rw [i1]) ?_
    by_cases c0 : k < 0
    · rw [if_pos c0]
    · have c1 := c0
      have := pred_lt (n := 5) (by decide) (by decide) (ck.resolve_left c0)
      rw [if_neg c0, if_pos (show (4 : Int32) < k from this)]
/-- wants moved up -/
def Mv (h0 h : MH) (i j : Nat) : Prop := mm_K h = mm_K h0 ∧ mm_L h = mm_L h0 ∧ mm_I h = mm_I h0 ∧ mm_N h = mm_N h0 ∧ mm_S h = mm_S h0 ∧ (∀ a, a ≠ 91 → mm_R h a = mm_R h0 a) ∧ ∀ k, mm_R h 91 k = if i ≤ k ∧ k < j then mm_R h0 91 (k + 1) else mm_R h0 91 k
theorem Mv.Gr {h0 h : MH} {i j : Nat} (m : Mv h0 h i j) (hG : Gr h0) : Gr h := by
  obtain ⟨m1, m2, m3, m4, m5, m6, m7⟩ := m
  obtain ⟨g1, g2, g3, g4⟩ := hG
  refine ⟨by rw [m4]; exact g1, fun a ha => by rw [m1]; exact g2 a ha, fun a ha hk => by rw [m2]; exact g3 a ha hk, fun a k b ha hr => ?_⟩
  by_cases e : a = 91
  · subst e
    have : gr 91 k = none := rfl
    rw [this] at hr; cases hr
  · rw [m6 a e]; exact g4 a k b ha hr
theorem rmW_L {h0 : MH} {A : SA} {i0 : Nat} (hG0 : Gr h0) (hA : OkA A) (R0 : RX h0 A) (k : MH → Option MH) :
    ∀ (n f : Nat) (h : MH) (j : Nat), n + (j + 1) = sw A → n < f → i0 ≤ j → Mv h0 h i0 j → ∃ h', f_X0_removeWant_L11 k 90 f h (nI j) = k h' ∧ Mv h0 h' i0 (sw A - 1)
  | 0, f, h, j, hn, hf, hi, M => by
    have h10 := hA.2.2.2.2.2.2.1
    obtain ⟨f, rfl⟩ : ∃ g, f = g + 1 := ⟨f - 1, by omega⟩
    have hG := M.Gr hG0
    refine ⟨h, ?_, by rw [show sw A - 1 = j by omega]; exact M⟩
    rw [f_X0_removeWant_L11, gI_g hG (by decide) (by decide), bS, M.2.2.1, R0.2.2.1, cl_add, in_le (by omega) (by omega), if_pos (by omega)]
  | n + 1, f, h, j, hn, hf, hi, M => by
    have h10 := hA.2.2.2.2.2.2.1
    obtain ⟨f, rfl⟩ : ∃ g, f = g + 1 := ⟨f - 1, by omega⟩
    have hG := M.Gr hG0
    obtain ⟨o, p1, p2, p3, p4, p5⟩ := R0.2.2.2 (j + 1) (by omega)
    have er : mm_R h 91 (j + 1) = some o := by rw [M.2.2.2.2.2.2, if_neg (by omega)]; exact p1
    have M2 : Mv h0 (mm_sr h 91 j (some o)) i0 (j + 1) := by
      obtain ⟨m1, m2, m3, m4, m5, m6, m7⟩ := M
      refine ⟨m1, m2, m3, m4, m5, fun a ha => ?_, fun q => ?_⟩
      · funext q; rw [sr_R, if_neg (fun z => ha z.1), m6 a ha]
      · rw [sr_R]
        by_cases e : q = j
        · subst e; rw [if_pos ⟨rfl, rfl⟩, if_pos ⟨hi, by omega⟩, p1]
        · rw [if_neg (fun z => e z.2), m7]
          by_cases c : i0 ≤ q ∧ q < j
          · rw [if_pos c, if_pos ⟨c.1, by omega⟩]
          · rw [if_neg c, if_neg (fun z => c ⟨z.1, by omega⟩)]
    obtain ⟨h2, e2, M3⟩ := rmW_L hG0 hA R0 k n f (mm_sr h 91 j (some o)) (j + 1) (by omega) (by omega) (by omega) M2
    refine ⟨h2, ?_, M3⟩
    rw [f_X0_removeWant_L11, gI_g hG (by decide) (by decide), bS, M.2.2.1, R0.2.2.1, cl_add, in_le (by omega) (by omega), if_neg (by omega), gR_g hG (by decide) (by decide) (show gr 90 1 = some 91 from rfl), bS, bS, aR_g hG (by decide) (by decide) (show j + 1 < 10 by omega) er, bS, sR_w hG (by rw [M.2.2.2.1]; exact p2) (by rw [M.1]; exact p3) (by omega), bS]
    exact e2
theorem x_unwant (hz : OkZ z) (C : CX h z) (x : Int32) : ∃ h', f_X9_unwant h 0 x = some ((opUnwant z x).1, h') ∧ CX h' (opUnwant z x).2 ∧ CF h h' := by
  have C0 := C
  obtain ⟨hG, J, L, N, P, W, RR⟩ := C
  have R := J.1
  have hA := hz.1
  have h10 := hA.2.2.2.2.2.2.1
  unfold f_X9_unwant opUnwant
  repeat (first | rw [gK_g hG (by decide) (by decide)] | rw [gI_g hG (by decide) (by decide)] | rw [gR_g hG (by decide) (by decide) (by rfl)] | rw [bS])
  rw [wantCount_eq hG R, bS]
  rcases idx_cases x (sw (zA z)) (by omega) with ⟨i, hi, rfl, i1⟩ | ⟨-, i1, c⟩
  · rw [i1, it_neg (by omega), in_lt (by omega) (by omega), if_pos hi]
    repeat (first | rw [gK_g hG (by decide) (by decide)] | rw [gI_g hG (by decide) (by decide)] | rw [gR_g hG (by decide) (by decide) (by rfl)] | rw [bS])
    obtain ⟨h1, e1, M⟩ := rmW_L hG hA R (fun he41 => (gI he41 90 0 7).bind fun v43 => (pI he41 90 0 7 (v43 - (1 : Int32))).bind fun h48 => some h48) (sw (zA z) - i - 1) fuel h i (by omega) (by unfold fuel; omega) (Nat.le_refl _) ⟨rfl, rfl, rfl, rfl, rfl, fun _ _ => rfl, fun k => by rw [if_neg (by omega)]⟩
    have G1 := M.Gr hG
    obtain ⟨m1, m2, m3, m4, m5, m6, m7⟩ := M
    have Io : ∀ a, a ≠ 90 → ∀ j, mm_I (mm_si h1 90 7 (nI (sw (zA z) - 1))) a j = mm_I h a j := fun a ha j => by rw [si_o ha, m3]
    have R2 : RX (mm_si h1 90 7 (nI (sw (zA z) - 1))) (unwantA (zA z) i) := by
      obtain ⟨⟨n1, n2, n3, n4⟩, rr, w1, w2⟩ := R
      refine ⟨⟨by rw [Io 1 (by decide)]; exact n1, by rw [Io 1 (by decide)]; exact n2, fun k hk => by rw [Io 2 (by decide)]; exact n3 k hk, fun i hi => by rw [Io 3 (by decide)]; exact n4 i hi⟩, fun q hq => ?_, by rw [si_s]; rfl, fun q hq => ?_⟩
      · obtain ⟨r1, r2, r3⟩ := rr q hq
        exact ⟨by rw [Io _ (by omega)]; exact r1, fun i hi j hj => by rw [Io _ (by omega)]; exact r2 i hi j hj, fun m hm => by rw [Io _ (by omega)]; exact r3 m hm⟩
      · have hq : q < sw (zA z) - 1 := hq
        by_cases cq : q < i
        · obtain ⟨o, p1, p2, p3, p4, p5⟩ := w2 q (by omega)
          refine ⟨o, by rw [si_R, m7, if_neg (by omega)]; exact p1, by rw [si_N, m4]; exact p2, by rw [si_K, m1]; exact p3, fun j hj => ?_, p5⟩
          rw [Io o (by omega)]
          show _ = (if q < i then sx (zA z) q else sx (zA z) (q + 1)) j
          rw [if_pos cq]; exact p4 j hj
        · obtain ⟨o, p1, p2, p3, p4, p5⟩ := w2 (q + 1) (by omega)
          refine ⟨o, by rw [si_R, m7, if_pos (by omega)]; exact p1, by rw [si_N, m4]; exact p2, by rw [si_K, m1]; exact p3, fun j hj => ?_, p5⟩
          rw [Io o (by omega)]
          show _ = (if q < i then sx (zA z) q else sx (zA z) (q + 1)) j
          rw [if_neg cq]; exact p4 j hj
    have W2 : WayIs (mm_si h1 90 7 (nI (sw (zA z) - 1))) 228 (zT z).1 (zT z).2 := by
      obtain ⟨a1, a2, a3, a4⟩ := W
      exact ⟨by rw [Io _ (by decide)]; exact a1, by rw [Io _ (by decide)]; exact a2, by rw [Io _ (by decide)]; exact a3, fun i s hi => by rw [Io _ (by decide)]; exact a4 i s hi⟩
    obtain ⟨h3, e3, C3, n3, s3, f3⟩ := startAfresh_eq (z := z) G1.si R2 (by rw [Io 1 (by decide)]; exact N) W2
    refine ⟨h3, ?_, C3, ⟨by rw [n3, si_N, m4]; omega, by rw [s3, si_S, m5]; omega, fun x h1 h2 => ?_⟩⟩
    · unfold f_X0_removeWant
      rw [gK_g hG (by decide) (by decide), hasW_y hG hA R hi, bS, if_neg (by decide), e1, gI_g G1 (by decide) (by decide), bS, m3, R.2.2.1, cl_sub (by omega), pI_g G1 (by decide) (by decide), bS, bS, e3, bS, gR_g C3.1 (by decide) (by decide) (show gr 0 1 = some 90 from rfl), bS, wantCount_eq C3.1 C3.2.1.1, bS]
      rfl
    · funext j
      rw [f3 x (by unfold FrS; omega), Io x (by omega)]
  · rw [i1]
    refine ⟨h, ?_, C0, CF.rf⟩
    by_cases c0 : x < 0
    · rw [if_pos c0]
    · have c1 := c.resolve_left c0
      rw [if_neg c0, if_neg (fun q => ?_)]
      rw [Int32.lt_iff_toInt_lt] at q
      rw [Int32.le_iff_toInt_le] at c1
      omega
end

/-! ===== the class's calls: frames and small helpers ===== -/
def CF (h h' : MH) : Prop := mm_N h' ≤ mm_N h + 1 ∧ mm_S h' ≤ mm_S h + 6 ∧ ∀ a, 230 ≤ a → a < 252 → mm_I h' a = mm_I h a
theorem CF.rf {h : MH} : CF h h := ⟨by omega, by omega, fun _ _ _ => rfl⟩
theorem CF.of {h h' : MH} {P : Nat → Prop} (o : Only h h' P) (hp : ∀ a, P a → a < 230) : CF h h' := ⟨by rw [o.2.2.2.1]; omega, by rw [o.2.2.2.2.1]; omega, fun a h1 _ => o.2.2.2.2.2 a (fun q => by have := hp a q; omega)⟩
theorem RunIs.only {h h' : MH} {A : SA} {l : List Nat} {z : Option RN} {P : Nat → Prop} (ok : OkR A l z) (o : Only h h' P) (h1 : ¬ P 106) (h2 : ∀ a, 107 < a → a < 228 → ¬ P a) (r : RunIs h z) : RunIs h' z := by
  cases z with
  | none => show mm_I h' 106 4 = 0; rw [o.2.2.2.2.2 106 h1]; exact r
  | some q =>
    obtain ⟨at_, ch, ps, br⟩ := q
    obtain ⟨r1, r2, r3, r4, r5, r6, r7⟩ := r
    have e := o.2.2.2.2.2 106 h1
    have hl : ps.length ≤ 40 := ok.2.2.1
    refine ⟨by rw [e]; exact r1, by rw [e]; exact r2, by rw [e]; exact r3, by rw [e]; exact r4, by rw [e]; exact r5, by rw [e]; exact r6, fun k p hk => ?_⟩
    have hlt : k < ps.length := (List.getElem?_eq_some_iff.mp hk).1
    obtain ⟨a, b, c⟩ := r7 k p hk
    have e1 := o.2.2.2.2.2 (108 + 3 * k) (h2 _ (by omega) (by omega))
    exact ⟨by rw [e1]; exact a, by rw [e1]; exact b, c.only o (h2 _ (by omega) (by omega)) (h2 _ (by omega) (by omega))⟩
theorem CX.mk2 {h h' : MH} {z : ZS} {P : Nat → Prop} {l : List Nat} {t : List Nat × Int32} {rn : Option RN} (C : CX h z) (o : Only h h' P) (hp : ∀ a, P a → 89 < a) (J : JK h' (zA z)) (pl : PlanIs h' l) (w : WayIs h' 228 t.1 t.2) (r : RunIs h' rn) : CX h' (zA z, l, t, rn) := by
  obtain ⟨c1, c2, c3, c4, c5, c6, c7⟩ := C
  have e1 := o.2.2.2.2.2 1 (fun q => by have := hp 1 q; omega)
  have e5 := o.2.2.2.2.2 5 (fun q => by have := hp 5 q; omega)
  refine ⟨o.Gr c1, J, ?_, ?_, pl, w, r⟩
  · show Cl h' (zA z); unfold Cl; rw [e1, e5]; exact c3
  · show mm_I h' 1 8 = nI (lkS (zA z) / 2); rw [e1]; exact c4
/-- what the judge and the planner may write, and the reference -/
def JF (a : Nat) : Prop := (89 < a ∧ a < 101) ∨ (102 < a ∧ a < 106) ∨ a = 107 ∨ 229 < a
theorem CX.keep {h h' : MH} {z : ZS} {P : Nat → Prop} (hz : OkZ z) (C : CX h z) (o : Only h h' P) (hp : ∀ a, P a → JF a) (J : JK h' (zA z)) : CX h' z :=
  CX.mk2 C o (fun a q => by have := hp a q; unfold JF at this; omega) J (C.2.2.2.2.1.only o (fun q => by have := hp _ q; unfold JF at this; omega) (fun q => by have := hp _ q; unfold JF at this; omega)) (C.2.2.2.2.2.1.only o (fun q => by have := hp _ q; unfold JF at this; omega) (fun q => by have := hp _ q; unfold JF at this; omega)) (RunIs.only hz.2.2.2.2.2 o (fun q => by have := hp _ q; unfold JF at this; omega) (fun a h1 h2 q => by have := hp _ q; unfold JF at this; omega) C.2.2.2.2.2.2)
/-- ranges -/
theorem pred_lt {n : Nat} {x : Int32} (h1 : 1 ≤ n) (hn : n < 2 ^ 30) (c : nI n ≤ x) : nI (n - 1) < x := by
  rw [Int32.le_iff_toInt_le, nI_toInt (by omega)] at c
  rw [Int32.lt_iff_toInt_lt, nI_toInt (by omega)]
  omega
section
variable {h : MH} {A : SA}
theorem hasHost_y (hG : Gr h) (hA : OkA A) (R : RX h A) {j : Nat} (hj : j < sh A) : f_X1_hasHost h 1 (nI j) = some 1 := by
  have h6 := hA.2.2.1
  unfold f_X1_hasHost
  repeat (first | rw [gK_g hG (by decide) (by decide)] | rw [gI_g hG (by decide) (by decide)] | rw [gR_g hG (by decide) (by decide) (by rfl)] | rw [bS])
  rw [R.1.2.1, it_neg (by omega), in_le (by omega) (by omega), if_neg (by omega)]
theorem hasHost_n (hG : Gr h) (R : RX h A) {x : Int32} (c : x < 0 ∨ nI (sh A) ≤ x) : f_X1_hasHost h 1 x = some 0 := by
  unfold f_X1_hasHost
  repeat (first | rw [gK_g hG (by decide) (by decide)] | rw [gI_g hG (by decide) (by decide)] | rw [gR_g hG (by decide) (by decide) (by rfl)] | rw [bS])
  rw [R.1.2.1]
  by_cases c0 : x < 0
  · rw [if_pos c0]
  · rw [if_neg c0, if_pos (c.resolve_left c0)]
theorem hasSw_y (hG : Gr h) (hA : OkA A) (R : RX h A) {j : Nat} (hj : j < sn A) : f_X1_hasSwitch h 1 (nI j) = some 1 := by
  have h6 := hA.2.1
  unfold f_X1_hasSwitch
  repeat (first | rw [gK_g hG (by decide) (by decide)] | rw [gI_g hG (by decide) (by decide)] | rw [gR_g hG (by decide) (by decide) (by rfl)] | rw [bS])
  rw [R.1.1, it_neg (by omega), in_le (by omega) (by omega), if_neg (by omega)]
theorem hasSw_n (hG : Gr h) (R : RX h A) {x : Int32} (c : x < 0 ∨ nI (sn A) ≤ x) : f_X1_hasSwitch h 1 x = some 0 := by
  unfold f_X1_hasSwitch
  repeat (first | rw [gK_g hG (by decide) (by decide)] | rw [gI_g hG (by decide) (by decide)] | rw [gR_g hG (by decide) (by decide) (by rfl)] | rw [bS])
  rw [R.1.1]
  by_cases c0 : x < 0
  · rw [if_pos c0]
  · rw [if_neg c0, if_pos (c.resolve_left c0)]
theorem hasW_y (hG : Gr h) (hA : OkA A) (R : RX h A) {j : Nat} (hj : j < sw A) : f_X0_hasWant h 90 (nI j) = some 1 := hasWant_eq hG hA R hj
theorem hasW_n (hG : Gr h) (R : RX h A) {x : Int32} (c : x < 0 ∨ nI (sw A) ≤ x) : f_X0_hasWant h 90 x = some 0 := by
  unfold f_X0_hasWant
  repeat (first | rw [gK_g hG (by decide) (by decide)] | rw [gI_g hG (by decide) (by decide)] | rw [gR_g hG (by decide) (by decide) (by rfl)] | rw [bS])
  rw [R.2.2.1]
  by_cases c0 : x < 0
  · rw [if_pos c0]
  · rw [if_neg c0, if_pos (c.resolve_left c0)]
theorem all_pow {A : SA} (hA : OkA A) : 2 ^ sn A = allS A + 1 ∧ 2 ^ sn A ≤ 128 := by
  have : 2 ^ sn A ≤ 2 ^ 7 := Nat.pow_le_pow_right (by decide) hA.2.1
  have h0 : 0 < 2 ^ sn A := Nat.pow_pos (by decide)
  unfold allS; omega
theorem hasMix_y (hG : Gr h) (hA : OkA A) (R : RX h A) {j : Nat} (hj : j < 2 ^ sn A) : f_X1_hasMixture h 1 (nI j) = some 1 := by
  have hp := all_pow hA
  unfold f_X1_hasMixture
  rw [gK_g hG (by decide) (by decide), it_neg (by omega), allNew_eq hG hA R, bS, in_lt (by omega) (by omega), if_neg (by omega)]
theorem hasMix_n (hG : Gr h) (hA : OkA A) (R : RX h A) {x : Int32} (c : x < 0 ∨ nI (2 ^ sn A) ≤ x) : f_X1_hasMixture h 1 x = some 0 := by
  have hp := all_pow hA
  unfold f_X1_hasMixture
  rw [gK_g hG (by decide) (by decide), allNew_eq hG hA R, bS]
  by_cases c0 : x < 0
  · rw [if_pos c0]
  · have := pred_lt (by omega) (by omega) (c.resolve_left c0)
    rw [hp.1] at this
    rw [if_neg c0]; exact if_pos this
theorem isMark_y {j : Nat} (hj : j < 16) : f_X9_isMark h (nI j) = some 1 := by
  unfold f_X9_isMark
  rw [it_neg (by omega), it_le2 (by omega) (by decide), if_neg (by omega)]
theorem isMark_n {x : Int32} (c : x < 0 ∨ nI 16 ≤ x) : f_X9_isMark h x = some 0 := by
  unfold f_X9_isMark
  by_cases c0 : x < 0
  · rw [if_pos c0]
  · rw [if_neg c0, if_pos (show (16 : Int32) ≤ x from c.resolve_left c0)]
theorem isSpan_y {v b : Nat} (hv : v < 16) (hb : b < 16) : f_X9_isSpan h (nI v) (nI b) = some 1 := by
  unfold f_X9_isSpan
  rw [isMark_y hv, bS, if_neg (by decide), isMark_y hb, bS, if_neg (by decide)]
theorem isSpan_n1 {x y : Int32} (c : x < 0 ∨ nI 16 ≤ x) : f_X9_isSpan h x y = some 0 := by
  unfold f_X9_isSpan
  rw [isMark_n c, bS, if_pos rfl]
theorem isSpan_n2 {v : Nat} {y : Int32} (hv : v < 16) (c : y < 0 ∨ nI 16 ≤ y) : f_X9_isSpan h (nI v) y = some 0 := by
  unfold f_X9_isSpan
  rw [isMark_y hv, bS, if_neg (by decide), isMark_n c, bS, if_pos rfl]
/-- plans -/
theorem hasP_y {l : List Nat} (hG : Gr h) (P : PlanIs h l) {i : Nat} (hi : i < l.length) : f_X3_has h 101 (nI i) = some 1 := by
  have := P.2.1
  unfold f_X3_has
  repeat (first | rw [gK_g hG (by decide) (by decide)] | rw [gI_g hG (by decide) (by decide)] | rw [gR_g hG (by decide) (by decide) (by rfl)] | rw [bS])
  rw [P.1, it_neg (by omega), in_le (by omega) (by omega), if_neg (by omega)]
theorem hasP_n {l : List Nat} (hG : Gr h) (P : PlanIs h l) {x : Int32} (c : x < 0 ∨ nI l.length ≤ x) : f_X3_has h 101 x = some 0 := by
  unfold f_X3_has
  repeat (first | rw [gK_g hG (by decide) (by decide)] | rw [gI_g hG (by decide) (by decide)] | rw [gR_g hG (by decide) (by decide) (by rfl)] | rw [bS])
  rw [P.1]
  by_cases c0 : x < 0
  · rw [if_pos c0]
  · rw [if_neg c0, if_pos (c.resolve_left c0)]
theorem getD_some {l : List Nat} {i : Nat} (hi : i < l.length) : l[i]? = some (l.getD i 0) := by
  rw [List.getD_eq_getElem?_getD, List.getElem?_eq_getElem hi]; rfl
theorem getP_y {l : List Nat} (hG : Gr h) (P : PlanIs h l) {i : Nat} (hi : i < l.length) : f_X3_get h 101 (nI i) = some (nI (l.getD i 0)) := by
  have := P.2.1
  unfold f_X3_get
  rw [gK_g hG (by decide) (by decide), hasP_y hG P hi, bS, if_neg (by decide), gR_g hG (by decide) (by decide) (show gr 101 0 = some 102 from rfl), bS, aI_g hG (by decide) (by decide) (show i < 7 by omega), bS, P.2.2 i _ (getD_some hi)]
theorem getP_n {l : List Nat} (hG : Gr h) (P : PlanIs h l) {i : Nat} (hl : l.length ≤ i) (hi : i < 2 ^ 31) : f_X3_get h 101 (nI i) = some (nI (l.getD i 0)) := by
  unfold f_X3_get
  rw [gK_g hG (by decide) (by decide), hasP_n hG P (Or.inr ((nI_leI (by omega) hi).mpr hl)), bS, if_pos rfl, List.getD_eq_getElem?_getD, List.getElem?_eq_none hl]; rfl
theorem getP {l : List Nat} (hG : Gr h) (P : PlanIs h l) {i : Nat} (hi : i < 2 ^ 31) : f_X3_get h 101 (nI i) = some (nI (l.getD i 0)) := by
  by_cases c : i < l.length
  · exact getP_y hG P c
  · exact getP_n hG P (by omega) hi
theorem un_take {l : List Nat} {i : Nat} (hi : i < l.length) : unS (l.take (i + 1)) = unS (l.take i) ||| l.getD i 0 := by
  rw [List.take_add_one, getD_some hi]
  simp [unS, List.foldl_append]
theorem mem_L {l : List Nat} (hG : Gr h) (P : PlanIs h l) {n : Nat} (hn : n ≤ l.length) (k : Int32 → Option Int32) :
    ∀ (m f i : Nat), m + i = n → m < f → f_X3_membersAhead_L4 k h 101 (nI n) f (nI (unS (l.take i))) (nI i) = k (nI (unS (l.take n)))
  | 0, f, i, hm, hf => by
    have := P.2.1
    obtain ⟨f, rfl⟩ : ∃ g, f = g + 1 := ⟨f - 1, by omega⟩
    rw [f_X3_membersAhead_L4, in_le (by omega) (by omega), if_pos (by omega), show i = n by omega]
  | m + 1, f, i, hm, hf => by
    have := P.2.1
    obtain ⟨f, rfl⟩ : ∃ g, f = g + 1 := ⟨f - 1, by omega⟩
    have hi : i < l.length := by omega
    rw [f_X3_membersAhead_L4, in_le (by omega) (by omega), if_neg (by omega), gI_g hG (by decide) (by decide), bS, P.1, in_le (by omega) (by omega), if_neg (by omega), gR_g hG (by decide) (by decide) (show gr 101 0 = some 102 from rfl), bS, aI_g hG (by decide) (by decide) (show i < 7 by omega), bS, P.2.2 i _ (getD_some hi), nx_or, cl_add, ← un_take hi]
    exact mem_L hG P hn k m f (i + 1) (by omega) (by omega)
theorem memAhead_eq {l : List Nat} (hG : Gr h) (P : PlanIs h l) {n : Nat} (hn : n ≤ l.length) : f_X3_membersAhead h 101 (nI n) = some (nI (unS (l.take n))) := by
  have := P.2.1
  unfold f_X3_membersAhead
  rw [gK_g hG (by decide) (by decide)]
  exact mem_L hG P hn (fun x => some x) n fuel 0 (by omega) (by unfold fuel; omega)
theorem members_eq {l : List Nat} (hG : Gr h) (P : PlanIs h l) : f_X3_members h 101 = some (nI (unS l)) := by
  unfold f_X3_members
  rw [gK_g hG (by decide) (by decide), gI_g hG (by decide) (by decide), bS, P.1, memAhead_eq hG P (Nat.le_refl _), bS, List.take_length]
theorem sizeP_eq {l : List Nat} (hG : Gr h) (P : PlanIs h l) : f_X3_size h 101 = some (nI l.length) := by
  unfold f_X3_size
  repeat (first | rw [gK_g hG (by decide) (by decide)] | rw [gI_g hG (by decide) (by decide)] | rw [gR_g hG (by decide) (by decide) (by rfl)] | rw [bS])
  rw [P.1]
/-- ways -/
theorem lenW_eq {w : Nat} {p : List Nat} {e : Int32} (hG : Gr h) (hw : IsW w) (q : WayIs h w p e) : f_X8_length h w = some (nI p.length) := by
  unfold f_X8_length
  rw [gK_g hG hw.1 hw.2.1, gI_g hG hw.1 hw.2.1, bS, q.1]
theorem stop_y {w i : Nat} {p : List Nat} {e : Int32} (hG : Gr h) (hw : IsW w) (q : WayIs h w p e) (h7 : p.length ≤ 7) (hi : i < p.length) : f_X8_stop h w (nI i) = some (nI (p.getD i 0)) := by
  unfold f_X8_stop
  rw [gK_g hG hw.1 hw.2.1, it_neg (by omega), gI_g hG hw.1 hw.2.1, bS, q.1, in_le (by omega) (by omega), if_neg (by omega), gR_g hG hw.1 hw.2.1 hw.2.2.1, bS, aI_g hG hw.2.2.2.1 hw.2.2.2.2.1 (by rw [hw.2.2.2.2.2]; omega), bS, q.2.2.2 i _ (getD_some hi)]
theorem stop_n {w : Nat} {x : Int32} {p : List Nat} {e : Int32} (hG : Gr h) (hw : IsW w) (q : WayIs h w p e) (c : x < 0 ∨ nI p.length ≤ x) : f_X8_stop h w x = some (-1) := by
  unfold f_X8_stop
  rw [gK_g hG hw.1 hw.2.1, gI_g hG hw.1 hw.2.1, bS, q.1]
  by_cases c0 : x < 0
  · rw [if_pos c0]
  · rw [if_neg c0, if_pos (c.resolve_left c0)]
theorem stopF_eq (hG : Gr h) : f_X6_stop h 106 = some (mm_si h 106 4 0) := by
  unfold f_X6_stop
  rw [gK_g hG (by decide) (by decide), pZ_g hG (by decide) (by decide) (Or.inl rfl), bS]
end

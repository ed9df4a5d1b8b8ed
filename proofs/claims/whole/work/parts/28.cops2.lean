/-! ===== the class's calls, second ===== -/
section
variable {h : MH} {z : ZS}
theorem JK.kp {h h' : MH} {A : SA} (J : JK h A) (o : Only h h' KpF) (R : RX h' A) (K : Kp h' A) (f : ∀ k, k ≠ 8 → mm_I h' 90 k = mm_I h 90 k) : JK h' A := by
  refine ⟨R, K, ?_⟩
  have D := J.2.2
  unfold Gd at D ⊢
  rw [f 9 (by decide), o.2.2.2.2.2 93 (by unfold KpF Scr; omega)]
  exact D
theorem JK.scr {h h' : MH} {A : SA} (J : JK h A) (o : Only h h' Scr) : JK h' A := by
  refine ⟨RX.only o scr_lt J.1, ?_, ?_⟩
  · have K := J.2.1; unfold Kp at K ⊢; rw [o.2.2.2.2.2 90 (by unfold Scr; omega), o.2.2.2.2.2 92 (by unfold Scr; omega)]; exact K
  · have D := J.2.2; unfold Gd at D ⊢; rw [o.2.2.2.2.2 90 (by unfold Scr; omega), o.2.2.2.2.2 93 (by unfold Scr; omega)]; exact D
theorem kpf_jf (a : Nat) (q : KpF a) : JF a := by unfold KpF Scr at q; unfold JF; omega
theorem kpf_lt (a : Nat) (q : KpF a) : a < 230 := by unfold KpF Scr at q; omega
theorem x_kept (hz : OkZ z) (C : CX h z) (x : Int32) : ∃ h', f_X9_kept h 0 x = some (opKept z x, h') ∧ CX h' z ∧ CF h h' := by
  have hG := C.1
  have R := C.2.1.1
  have hA := hz.1
  have h10 := hA.2.2.2.2.2.2.1
  unfold f_X9_kept opKept
  repeat (first | rw [gK_g hG (by decide) (by decide)] | rw [gI_g hG (by decide) (by decide)] | rw [gR_g hG (by decide) (by decide) (by rfl)] | rw [bS])
  rcases idx_cases x (sw (zA z)) (by omega) with ⟨i, hi, rfl, ij⟩ | ⟨-, ij, c⟩
  · rw [ij, hasW_y hG hA R hi, bS, if_neg (by decide)]
    repeat (first | rw [gK_g hG (by decide) (by decide)] | rw [gI_g hG (by decide) (by decide)] | rw [gR_g hG (by decide) (by decide) (by rfl)] | rw [bS])
    obtain ⟨h1, e1, o1, R1, K1, f1⟩ := isKept_eq hG hA R C.2.1.2.1 hi
    rw [e1, bS]
    refine ⟨h1, ?_, CX.keep hz C o1 kpf_jf (C.2.1.kp o1 R1 K1 f1), CF.of o1 kpf_lt⟩
    rw [b2_it]
    show _ = some (b2 (keptS (zA z) i), h1)
    cases keptS (zA z) i <;> rfl
  · rw [ij, hasW_n hG R c, bS, if_pos rfl]
    exact ⟨h, rfl, C, CF.rf⟩
theorem why_le (A : SA) (m : Nat) : whyS A m ≤ sw A := by
  have := (lst_le (fun i => keptS A i && !(badS A i m == 16)) (sw A) 0).2
  unfold whyS; omega
theorem why_bad {A : SA} {m : Nat} (h : whyS A m < sw A) : keptS A (whyS A m) = true ∧ badS A (whyS A m) m ≠ 16 := by
  have := lst_yes (p := fun i => keptS A i && !(badS A i m == 16)) (sw A) 0 (by unfold whyS at h; omega)
  simpa [whyS] using this
theorem x_why (hz : OkZ z) (C : CX h z) (x y : Int32) : ∃ h', f_X9_why h 0 x y = some (opWhy z x y, h') ∧ CX h' z ∧ CF h h' := by
  have hG := C.1
  have R := C.2.1.1
  have hA := hz.1
  have h10 := hA.2.2.2.2.2.2.1
  have hp := all_pow hA
  unfold f_X9_why opWhy
  repeat (first | rw [gK_g hG (by decide) (by decide)] | rw [gI_g hG (by decide) (by decide)] | rw [gR_g hG (by decide) (by decide) (by rfl)] | rw [bS])
  rcases idx_cases x (2 ^ sn (zA z)) (by omega) with ⟨m, hm, rfl, im⟩ | ⟨-, im, c⟩
  · rw [im, hasMix_y hG hA R hm, bS, if_neg (by decide)]
    obtain ⟨h1, e1, o1, R1, K1, f1⟩ := firstBroken_eq hG hA R C.2.1.2.1 (mix := m) (by omega)
    have G1 := o1.Gr hG
    have J1 := C.2.1.kp o1 R1 K1 f1
    have C1 := CX.keep hz C o1 kpf_jf J1
    have hwl := why_le (zA z) m
    have base : f_X9_why_j22 h 0 (nI m) y = (if wI (zA z) (whyS (zA z) m) = -1 then some (wI (zA z) (whyS (zA z) m), h1) else if y = 0 then some (wI (zA z) (whyS (zA z) m), h1) else (f_X0_leastBadMark h1 90 (wI (zA z) (whyS (zA z) m)) (nI m)).bind fun r => some (r.1, r.2)) := by
      unfold f_X9_why_j22
      repeat (first | rw [gK_g hG (by decide) (by decide)] | rw [gI_g hG (by decide) (by decide)] | rw [gR_g hG (by decide) (by decide) (by rfl)] | rw [bS])
      rw [e1, bS]
      repeat (first | rw [gK_g G1 (by decide) (by decide)] | rw [gI_g G1 (by decide) (by decide)] | rw [gR_g G1 (by decide) (by decide) (by rfl)] | rw [bS])
    have go : ∀ w, w < 2 → y = nI w → ∃ h', f_X9_why_j22 h 0 (nI m) y = some (if whyS (zA z) m = sw (zA z) then -1 else if w = 0 then nI (whyS (zA z) m) else nI (badS (zA z) (whyS (zA z) m) m), h') ∧ CX h' z ∧ CF h h' := by
      intro w hw ey
      rw [base]
      unfold wI
      by_cases c : whyS (zA z) m = sw (zA z)
      · rw [if_pos c, if_pos rfl, if_pos c]
        exact ⟨h1, rfl, C1, CF.of o1 kpf_lt⟩
      · rw [if_neg c, it_m1 (by omega), if_neg c, ey, it_eq1 (by omega) (by decide)]
        by_cases c0 : w = 0
        · rw [if_pos c0, if_pos c0]
          exact ⟨h1, rfl, C1, CF.of o1 kpf_lt⟩
        · rw [if_neg c0, if_neg c0]
          obtain ⟨h2, e2, o2⟩ := leastBad_eq G1 hA R1 (mix := m) (i := whyS (zA z) m) (by omega) (by omega)
          have hb := (why_bad (A := zA z) (m := m) (by omega)).2
          rw [e2, bS]
          refine ⟨h2, ?_, CX.keep hz C1 o2 (fun a q => by unfold Scr at q; unfold JF; omega) (J1.scr o2), ?_⟩
          · unfold bI; rw [if_neg hb]
          · exact CF.of (o1.tr (o2.mono (fun a q => Or.inr (Or.inr q)))) kpf_lt
    rcases idx_cases y 2 (by decide) with ⟨w, hw, rfl, iw⟩ | ⟨hno, iw, -⟩
    · rw [iw]
      obtain ⟨h2, e2, C2, F2⟩ := go w hw rfl
      refine ⟨h2, ?_, C2, F2⟩
      rw [e2]
      rcases (show w = 0 ∨ w = 1 by omega) with rfl | rfl <;> rfl
    · rw [iw, if_neg (show ¬ y = 0 from hno 0 (by decide)), if_neg (show ¬ y = 1 from hno 1 (by decide))]
      exact ⟨h, rfl, C, CF.rf⟩
  · rw [im, hasMix_n hG hA R c, bS, if_pos rfl]
    exact ⟨h, rfl, C, CF.rf⟩
theorem un_lt {A : SA} (hA : OkA A) : ∀ (l : List Nat) (m : Nat), m < 128 → (∀ s ∈ l, 1 ≤ s ∧ wi s (unlikeS A) = true) → l.foldl (fun m s => m ||| s) m < 128
  | [], m, hm, _ => hm
  | s :: l, m, hm, hl => un_lt hA l (m ||| s) (or_lt hm (by have := wi_le (hl s List.mem_cons_self).2; have := unlike_lt hA; omega)) (fun x hx => hl x (List.mem_cons_of_mem _ hx))
theorem un_wi {A : SA} : ∀ (l : List Nat) (m : Nat), wi m (unlikeS A) = true → (∀ s ∈ l, 1 ≤ s ∧ wi s (unlikeS A) = true) → wi (l.foldl (fun m s => m ||| s) m) (unlikeS A) = true
  | [], m, hm, _ => hm
  | s :: l, m, hm, hl => un_wi l (m ||| s) (wi_or hm (hl s List.mem_cons_self).2) (fun x hx => hl x (List.mem_cons_of_mem _ hx))
theorem wi_0 (u : Nat) : wi 0 u = true := by simp [wi]
theorem take_un {A : SA} (hA : OkA A) {l : List Nat} (hP : OkP A l) (i : Nat) : unS (l.take i) < 128 ∧ wi (unS (l.take i)) (unlikeS A) = true :=
  ⟨un_lt hA _ 0 (by decide) (fun s hs => hP.2.1 s (List.mem_of_mem_take hs)), un_wi _ 0 (wi_0 _) (fun s hs => hP.2.1 s (List.mem_of_mem_take hs))⟩
theorem all_un {A : SA} (hA : OkA A) {l : List Nat} (hP : OkP A l) : unS l < 128 ∧ wi (unS l) (unlikeS A) = true := by
  have := take_un hA hP l.length
  rwa [List.take_length] at this
theorem get_un {A : SA} (hA : OkA A) {l : List Nat} (hP : OkP A l) {i : Nat} (hi : i < l.length) : l.getD i 0 < 128 ∧ 1 ≤ l.getD i 0 ∧ wi (l.getD i 0) (unlikeS A) = true := by
  have hm := List.mem_of_getElem? (getD_some hi)
  have := hP.2.1 _ hm
  have h1 := wi_le this.2
  have h2 := unlike_lt hA
  exact ⟨by omega, this.1, this.2⟩
theorem getD_lt {A : SA} (hA : OkA A) {l : List Nat} (hP : OkP A l) (i : Nat) : l.getD i 0 < 128 := by
  by_cases c : i < l.length
  · exact (get_un hA hP c).1
  · rw [List.getD_eq_getElem?_getD, List.getElem?_eq_none (by omega)]; decide
theorem x_mid (hz : OkZ z) (C : CX h z) (x : Int32) : ∃ h', f_X9_mid h 0 x = some (opMid z x, h') ∧ CX h' z ∧ CF h h' := by
  have C0 := C
  obtain ⟨hG, J, -, -, P, -, -⟩ := C
  have hl := P.2.1
  have hA := hz.1
  have hP := hz.2.2.2.1
  unfold f_X9_mid opMid
  repeat (first | rw [gK_g hG (by decide) (by decide)] | rw [gI_g hG (by decide) (by decide)] | rw [gR_g hG (by decide) (by decide) (by rfl)] | rw [bS])
  rcases idx_cases x (zP z).length (by omega) with ⟨j, hj, rfl, ij⟩ | ⟨-, ij, c⟩
  · have t := take_un hA hP j
    have g := get_un hA hP hj
    obtain ⟨h1, e1, o1, J1⟩ := whyNot_eq hG hA J t.1 g.1 t.2 g.2.2
    rw [ij, hasP_y hG P hj, bS, if_neg (by decide)]
    repeat (first | rw [gK_g hG (by decide) (by decide)] | rw [gI_g hG (by decide) (by decide)] | rw [gR_g hG (by decide) (by decide) (by rfl)] | rw [bS])
    rw [memAhead_eq hG P (by omega), bS, bS, getP_y hG P hj, bS, e1, bS]
    exact ⟨h1, rfl, CX.keep hz C0 o1 pns_jf J1, CF.of o1 pns_lt⟩
  · rw [ij, hasP_n hG P c, bS, if_pos rfl]
    exact ⟨h, rfl, C0, CF.rf⟩
theorem x_way (hz : OkZ z) (C : CX h z) (x y w : Int32) : ∃ h', f_X9_way h 0 x y w = some ((opWay z x y w).1, h') ∧ CX h' (opWay z x y w).2 ∧ CF h h' := by
  have C0 := C
  obtain ⟨hG, J, -, -, P, -, RR⟩ := C
  have R := J.1
  have hA := hz.1
  have hp := all_pow hA
  have h6 := hA.2.2.1
  unfold f_X9_way opWay
  repeat (first | rw [gK_g hG (by decide) (by decide)] | rw [gI_g hG (by decide) (by decide)] | rw [gR_g hG (by decide) (by decide) (by rfl)] | rw [bS])
  rcases idx_cases x (2 ^ sn (zA z)) (by omega) with ⟨m, hm, rfl, im⟩ | ⟨-, im, c⟩
  · rw [im, hasMix_y hG hA R hm, bS, if_neg (by decide)]
    repeat (first | rw [gK_g hG (by decide) (by decide)] | rw [gI_g hG (by decide) (by decide)] | rw [gR_g hG (by decide) (by decide) (by rfl)] | rw [bS])
    rcases idx_cases y (sh (zA z)) (by omega) with ⟨j, hj, rfl, ij⟩ | ⟨-, ij, c⟩
    · rw [ij, hasHost_y hG hA R hj, bS, if_neg (by decide)]
      rcases idx_cases w 16 (by decide) with ⟨k, hk, rfl, ik⟩ | ⟨-, ik, c⟩
      · obtain ⟨h1, e1, o1, W1⟩ := trace_eq hG hA R (w := 228) ⟨isW_lat, by decide⟩ hj (mix := m) (by omega) hk
        have G1 := o1.Gr hG
        rw [ik, isMark_y hk, bS, if_neg (by decide)]
        repeat (first | rw [gK_g hG (by decide) (by decide)] | rw [gI_g hG (by decide) (by decide)] | rw [gR_g hG (by decide) (by decide) (by rfl)] | rw [bS])
        rw [e1, bS]
        repeat (first | rw [gK_g G1 (by decide) (by decide)] | rw [gI_g G1 (by decide) (by decide)] | rw [gR_g G1 (by decide) (by decide) (by rfl)] | rw [bS])
        rw [lenW_eq G1 isW_lat W1, bS]
        refine ⟨h1, rfl, CX.mk2 C0 o1 (fun a q => by unfold Two at q; omega) (JK.only o1 (fun a q => by unfold Two at q; omega) J) (P.only o1 (by unfold Two; omega) (by unfold Two; omega)) W1 (RunIs.only hz.2.2.2.2.2 o1 (by unfold Two; omega) (fun a h1 h2 => by unfold Two; omega) RR), CF.of o1 (fun a q => by unfold Two at q; omega)⟩
      · rw [ik, isMark_n c, bS, if_pos rfl]
        exact ⟨h, rfl, C0, CF.rf⟩
    · rw [ij, hasHost_n hG R c, bS, if_pos rfl]
      exact ⟨h, rfl, C0, CF.rf⟩
  · rw [im, hasMix_n hG hA R c, bS, if_pos rfl]
    exact ⟨h, rfl, C0, CF.rf⟩
theorem sub_mask {x : Int32} {f : Nat} (hf : f < 128) (hx : x &&& (nI f ^^^ (-1 : Int32)) = 0) : ∃ j, j < 128 ∧ x = nI j := by
  have e : x = nI x.toBitVec.toNat := by
    apply Int32.toBitVec_inj.1
    show x.toBitVec = BitVec.ofNat 32 x.toBitVec.toNat
    simp
  have e2 : x &&& nI f = x := by
    apply Int32.toBitVec_inj.1
    have hb := congrArg Int32.toBitVec hx
    have hb : x.toBitVec &&& ((nI f).toBitVec ^^^ (-1#32)) = 0#32 := hb
    show x.toBitVec &&& (nI f).toBitVec = x.toBitVec
    apply BitVec.eq_of_getLsbD_eq
    intro i hi
    have hb := congrArg (fun b => b.getLsbD i) hb
    have one : (-1#32).getLsbD i = true := by
      rw [show (-1#32) = BitVec.allOnes 32 by decide, BitVec.getLsbD_allOnes]; exact decide_eq_true hi
    simp only [BitVec.getLsbD_and, BitVec.getLsbD_xor, one, BitVec.getLsbD_zero] at hb
    rw [BitVec.getLsbD_and]
    revert hb
    cases x.toBitVec.getLsbD i <;> cases (nI f).toBitVec.getLsbD i <;> simp
  refine ⟨x.toBitVec.toNat &&& f, Nat.lt_of_le_of_lt Nat.and_le_right hf, ?_⟩
  rw [← nx_and, ← e, e2]
theorem pc_take {A : SA} (hA : OkA A) {l : List Nat} (hP : OkP A l) : ∀ i, i ≤ l.length → i ≤ pc (unS (l.take i))
  | 0, _ => Nat.zero_le _
  | i + 1, hi => by
    have ih := pc_take hA hP i (by omega)
    have g := get_un hA hP (show i < l.length by omega)
    have t := take_un hA hP i
    have := (pc_or t.1 g.1 g.2.1 (hP.2.2 i (by omega))).1
    rw [un_take (by omega)]
    omega
theorem pc_len {A : SA} (hA : OkA A) {l : List Nat} (hP : OkP A l) : l.length ≤ pc (unS l) := by
  have := pc_take hA hP l.length (Nat.le_refl _)
  rwa [List.take_length] at this
theorem rd_room {A : SA} (hA : OkA A) {l : List Nat} (hP : OkP A l) {s : Nat} (hs : s < 128) (h1 : 1 ≤ s) (hd : unS l &&& s = 0) : l.length < 7 := by
  have := pc_len hA hP
  have := pc_or (all_un hA hP).1 hs h1 hd
  omega
theorem x_round (hz : OkZ z) (C : CX h z) (x : Int32) : ∃ h', f_X9_round h 0 x = some ((opRound z x).1, h') ∧ CX h' (opRound z x).2 ∧ CF h h' := by
  have C0 := C
  obtain ⟨hG, J, -, -, P, W, RR⟩ := C
  have R := J.1
  have hA := hz.1
  have hP := hz.2.2.2.1
  have hu := unlike_lt hA
  have hn := all_un hA hP
  have hf : unlikeS (zA z) &&& (127 ^^^ unS (zP z)) < 128 := Nat.lt_of_le_of_lt Nat.and_le_left hu
  unfold f_X9_round
  repeat (first | rw [gK_g hG (by decide) (by decide)] | rw [gI_g hG (by decide) (by decide)] | rw [gR_g hG (by decide) (by decide) (by rfl)] | rw [bS])
  rw [unlikeX_eq hG hA R, bS]
  repeat (first | rw [gK_g hG (by decide) (by decide)] | rw [gI_g hG (by decide) (by decide)] | rw [gR_g hG (by decide) (by decide) (by rfl)] | rw [bS])
  rw [members_eq hG P, bS, nx_apart hu hn.1]
  by_cases c : x &&& (nI (unlikeS (zA z) &&& (127 ^^^ unS (zP z))) ^^^ (-1 : Int32)) = 0
  · obtain ⟨j, hj, rfl⟩ := sub_mask hf c
    rw [wi_eq hj hf, wi_apart hj hu hn.1, Bool.and_eq_true, beq_iff_eq] at c
    unfold opRound
    rw [idx_nI hj (by decide), it_eq1 (by omega) (by decide)]
    by_cases c0 : j = 0
    · rw [if_pos c0]
      refine ⟨h, ?_, ?_, CF.rf⟩
      · show _ = some ((if j = 0 ∨ wi j (unlikeS (zA z)) = false ∨ ¬ unS (zP z) &&& j = 0 then ((-1 : Int32), z) else _).1, h); rw [if_pos (Or.inl c0)]
      · show CX h (if j = 0 ∨ wi j (unlikeS (zA z)) = false ∨ ¬ unS (zP z) &&& j = 0 then ((-1 : Int32), z) else _).2; rw [if_pos (Or.inl c0)]; exact C0
    · have hl := rd_room hA hP hj (by omega) c.2
      obtain ⟨h1, e1, o1, P1⟩ := add_eq (s := j) hG P hl
      have G1 := o1.Gr hG
      have c2 : ¬ (j = 0 ∨ wi j (unlikeS (zA z)) = false ∨ ¬ unS (zP z) &&& j = 0) := fun q => q.elim c0 (fun q => q.elim (fun q => by rw [c.1] at q; cases q) (fun q => q c.2))
      have o2 : Only h1 (mm_si h1 106 4 0) (fun a => PlS a ∨ a = 106) := Only.si (Or.inr rfl)
      have o : Only h (mm_si h1 106 4 0) (fun a => PlS a ∨ a = 106) := (o1.mono (fun a q => Or.inl q)).tr o2
      have P2 : PlanIs (mm_si h1 106 4 0) (zP z ++ [j]) := P1.only (P := fun a => a = 106) (Only.si rfl) (by decide) (by decide)
      have eq : opRound z (nI j) = (nI ((zP z).length + 1), (zA z, zP z ++ [j], zT z, none)) := by
        unfold opRound; rw [idx_nI hj (by decide)]
        show (if j = 0 ∨ wi j (unlikeS (zA z)) = false ∨ ¬ unS (zP z) &&& j = 0 then ((-1 : Int32), z) else _) = _
        rw [if_neg c2]
      unfold opRound at eq
      rw [idx_nI hj (by decide)] at eq
      rw [if_neg c0, eq, if_pos (by rw [wi_eq hj hf, wi_apart hj hu hn.1, c.1, c.2]; rfl)]
      refine ⟨mm_si h1 106 4 0, ?_, CX.mk2 C0 o (fun a q => by unfold PlS at q; omega) (JK.only o (fun a q => by unfold PlS at q; omega) J) P2 (W.only o (by unfold PlS; omega) (by unfold PlS; omega)) (show mm_I _ 106 4 = 0 by rw [si_s]), CF.of o (fun a q => by unfold PlS at q; omega)⟩
      repeat (first | rw [gK_g hG (by decide) (by decide)] | rw [gI_g hG (by decide) (by decide)] | rw [gR_g hG (by decide) (by decide) (by rfl)] | rw [bS])
      rw [e1, bS]
      repeat (first | rw [gK_g G1 (by decide) (by decide)] | rw [gI_g G1 (by decide) (by decide)] | rw [gR_g G1 (by decide) (by decide) (by rfl)] | rw [bS])
      rw [stopF_eq G1, bS]
      repeat (first | rw [gK_g G1.si (by decide) (by decide)] | rw [gI_g G1.si (by decide) (by decide)] | rw [gR_g G1.si (by decide) (by decide) (by rfl)] | rw [bS])
      rw [sizeP_eq G1.si P2, bS]
      simp
  · rw [if_neg c]
    have eq : opRound z x = (-1, z) := by
      unfold opRound
      rcases idx_cases x 128 (by decide) with ⟨j, hj, rfl, ij⟩ | ⟨-, ij, -⟩
      · rw [ij]
        show (if j = 0 ∨ wi j (unlikeS (zA z)) = false ∨ ¬ unS (zP z) &&& j = 0 then ((-1 : Int32), z) else _) = _
        rw [wi_eq hj hf, wi_apart hj hu hn.1, Bool.and_eq_true, beq_iff_eq] at c
        rw [if_pos]
        by_cases cw : wi j (unlikeS (zA z)) = true
        · exact Or.inr (Or.inr (fun q => c ⟨cw, q⟩))
        · exact Or.inr (Or.inl (by simpa using cw))
      · rw [ij]
    rw [eq]
    refine ⟨h, ?_, C0, CF.rf⟩
    split <;> rfl
end

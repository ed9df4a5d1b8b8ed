/-! ===== the reference's hop ===== -/
/-- what the count of broken wants writes -/
def Wb (h h' : MH) : Prop := Only h h' (fun a => a = 230 ∨ a = 237 ∨ a = 238) ∧ ∀ k, k ≠ 13 → k ≠ 14 → k ≠ 32 → mm_I h' 230 k = mm_I h 230 k
theorem Wb.rf {h : MH} : Wb h h := ⟨Only.rf, fun _ _ _ _ => rfl⟩
theorem Wb.tr {h h1 h2 : MH} (a : Wb h h1) (b : Wb h1 h2) : Wb h h2 := ⟨a.1.tr b.1, fun k h1 h2 h3 => (b.2 k h1 h2 h3).trans (a.2 k h1 h2 h3)⟩
theorem Wk.wb {h h' : MH} (w : Wk h h') : Wb h h' := ⟨w.1, fun k h1 h2 _ => w.2 k h1 h2⟩
theorem Wb.si32 {h : MH} {x : Int32} : Wb h (mm_si h 230 32 x) := ⟨Only.si (Or.inl rfl), fun j _ _ h3 => by rw [si_o2 h3]⟩
theorem Wb.ms {h h' : MH} {A : SA} (w : Wb h h') (M : MS h A) : MS h' A := M.cong (fun k hk => w.2 k (by omega) (by omega) (by omega)) (fun a h1 h2 => w.1.2.2.2.2.2 a (by omega))
theorem Wb.pk {h h' : MH} {k : Nat} {p : PK} (w : Wb h h') (q : MPk h k p) : MPk h' k p := by
  unfold MPk at q ⊢
  rw [w.1.2.2.2.2.2 246 (by decide), w.1.2.2.2.2.2 247 (by decide), w.1.2.2.2.2.2 248 (by decide), w.1.2.2.2.2.2 249 (by decide), w.1.2.2.2.2.2 250 (by decide), w.1.2.2.2.2.2 251 (by decide)]; exact q
section
variable {A : SA}
/-- a packet's way is laid as the path at hand -/
theorem lay_L {q : List Nat} {e : Int32} {kk x m : Nat} {x3 x4 : Int32} (h7 : q.length ≤ 7) (hk : kk < 40) (k : MH → Option (Int32 × MH)) :
    ∀ (n f : Nat) (h : MH) (j : Nat), n + j = q.length → n < f → Gr h → MPk h kk (x, m, q, e) → mm_I h 230 13 = nI q.length → mm_I h 230 14 = e → (∀ (i s : Nat), i < j → q[i]? = some s → mm_I h 237 i = nI s) →
      ∃ h', f_X10_hop_L264 k 230 (nI kk) x3 x4 f h (nI j) = k h' ∧ Wk h h' ∧ Wp h' q e := by
  intro n
  induction n with
  | zero =>
    intro f h j hn hf hG P e1 e2 o
    obtain ⟨f, rfl⟩ : ∃ g, f = g + 1 := ⟨f - 1, by omega⟩
    refine ⟨h, ?_, Wk.rf, e1, e2, fun i s hi => o i s (by have := (List.getElem?_eq_some_iff.mp hi).1; omega) hi⟩
    rw [f_X10_hop_L264, r_I hG, bS, e1, in_le (by omega) (by omega), if_pos (by omega)]
  | succ n ih =>
    intro f h j hn hf hG P e1 e2 o
    obtain ⟨f, rfl⟩ : ∃ g, f = g + 1 := ⟨f - 1, by omega⟩
    have hj : j < q.length := by omega
    have w1 : Wk h (mm_si h 237 j (nI q[j])) := Wk.si1 (Or.inl rfl)
    obtain ⟨h2, e3, w2, o2⟩ := ih f (mm_si h 237 j (nI q[j])) (j + 1) (by omega) (by omega) hG.si (w1.wb.pk P) (by rw [si_o (by decide)]; exact e1) (by rw [si_o (by decide)]; exact e2) (fun i s hi hs => by
      by_cases ei : i = j
      · subst ei
        rw [si_s]
        rw [List.getElem?_eq_getElem hj] at hs
        cases hs; rfl
      · rw [si_o2 ei]; exact o i s (by omega) hs)
    refine ⟨h2, ?_, w1.tr w2, o2⟩
    rw [f_X10_hop_L264, r_I hG, bS, e1, in_le (by omega) (by omega), if_neg (by omega), r_9 hG, bS, r_38 hG, bS, cl_mul2, nI_add, aI_s hG (by decide) (by decide) (show 8 * kk + j < 320 by omega) (P.2.2.2.2.2 j q[j] (List.getElem?_eq_getElem hj)), bS, sI_g hG (by decide) (by decide) (show j < 8 by omega), bS, cl_add]
    exact e3
theorem brk_L (hA : OkA A) {kk x m e br : Nat} {q : List Nat} {x3 : Int32} (hk : kk < 40) (hx : x < sh A) (hm : m < 16) (h7 : q.length ≤ 7) (hq : ∀ t ∈ q, t < 7) (he : e < 13) (k : MH → Option (Int32 × MH)) :
    ∀ (n f : Nat) (h : MH) (i : Nat), n + i = sw A → n < f → Gr h → MS h A → MPk h kk (x, m, q, nI e) → mm_I h 230 32 = nI (br + cntS (brkP A x m (q, e)) i) →
      ∃ h', f_X10_hop_L151 k 230 (nI kk) x3 f h (nI i) = k h' ∧ Wb h h' ∧ mm_I h' 230 32 = nI (br + brkS A x m (q, e)) := by
  have h10 := hA.2.2.2.2.2.2.1
  have h6 := hA.2.2.1
  intro n
  induction n with
  | zero =>
    intro f h i hn hf hG M P c
    obtain ⟨f, rfl⟩ : ∃ g, f = g + 1 := ⟨f - 1, by omega⟩
    refine ⟨h, ?_, Wb.rf, by rw [c, brk_def, show i = sw A by omega]⟩
    rw [f_X10_hop_L151, r_I hG, bS, M.2.2.1, in_le (by omega) (by omega), if_pos (by omega)]
  | succ n ih =>
    intro f h i hn hf hG M P c
    obtain ⟨f, rfl⟩ : ∃ g, f = g + 1 := ⟨f - 1, by omega⟩
    have hi : i < sw A := by omega
    obtain ⟨-, ⟨v, hv, ev⟩, ⟨b, hb, eb⟩, ⟨a, has, ha⟩, -⟩ := hA.2.2.2.2.2.2.2 i hi
    have esp : spanW A i m = spanB v b m := by unfold spanW; rw [ev, eb, nI_clamp (by omega), nI_clamp (by omega)]
    obtain ⟨p1, p2, p3, p4, p5, p6⟩ := id P
    have skip : ∀ h1, Wb h h1 → mm_I h1 230 32 = mm_I h 230 32 → brkP A x m (q, e) i = false → ∃ h', f_X10_hop_j230 (fun x4f151 hf151 => f_X10_hop_L151 k 230 (nI kk) x3 f hf151 x4f151) h1 230 (nI kk) x3 (nI i) = k h' ∧ Wb h h' ∧ mm_I h' 230 32 = nI (br + brkS A x m (q, e)) := by
      intro h1 w1 f1 ep
      obtain ⟨h2, e2, w2, c2⟩ := ih f h1 (i + 1) (by omega) (by omega) (w1.1.Gr hG) (w1.ms M) (w1.pk P) (by rw [f1, c, cntS, ep]; rfl)
      refine ⟨h2, ?_, w1.tr w2, c2⟩
      unfold f_X10_hop_j230 f_X10_hop_j231
      rw [if_pos rfl, cl_add]
      exact e2
    rw [f_X10_hop_L151, r_I hG, bS, M.2.2.1, in_le (by omega) (by omega), if_neg (by omega), r_8 hG, bS, cl_mul2, cl_add, cl_add, cl_add, want_g hG hA M hi (by decide), bS, r_33 hG, bS, aI_s hG (by decide) (by decide) (show kk < 40 from hk) p1, bS]
    by_cases c1 : sx A i 3 = nI x
    · rw [if_pos c1, r_34 hG, bS, aI_s hG (by decide) (by decide) (show kk < 40 from hk) p2, bS, bS, want_g hG hA M hi (by decide), bS, bS, want_g hG hA M hi (by decide), bS, ev, eb, ofSpan_eq (by omega) (by omega) hm, bS, b2_it, ← esp]
      by_cases c2 : spanW A i m = true
      · obtain ⟨h1, e1, w1⟩ := keptOne_eq hG hA M hi
        have G1 := w1.1.Gr hG
        have M1 := w1.ms M
        have P1 := w1.wb.pk P
        obtain ⟨r1, r2, r3, r4, r5, r6⟩ := id P1
        rw [if_pos c2, e1, bS, b2_it]
        by_cases c3 : keptS A i = true
        · rw [if_pos c3]
          unfold f_X10_hop_j231
          have w2 : Wk h (mm_si (mm_si h1 230 13 (nI q.length)) 230 14 (nI e)) := w1.tr ((Wk.si0 (Or.inl rfl)).tr (Wk.si0 (Or.inr rfl)))
          have P1' : MPk (mm_si h1 230 13 (nI q.length)) kk (x, m, q, nI e) := (Wk.si0 (Or.inl rfl)).wb.pk P1
          obtain ⟨h3, e3, w3, Q3⟩ := lay_L (x3 := x3) (x4 := nI i) h7 hk (fun he298 => (gI he298 230 10 32).bind fun v300 => (gR he298 230 10 34).bind fun b307 => (aI he298 b307 (nI kk)).bind fun v311 => (f_X10_isKept he298 230 (nI i) v311).bind fun r312 => (if r312.1 = 0 then ((pI r312.2 230 10 32 (v300 + (1 : Int32))).bind fun h324 => f_X10_hop_L151 k 230 (nI kk) x3 f h324 (nI i + (1 : Int32))) else ((pI r312.2 230 10 32 (v300 + (0 : Int32))).bind fun h324 => f_X10_hop_L151 k 230 (nI kk) x3 f h324 (nI i + (1 : Int32))))) q.length fuel (mm_si (mm_si h1 230 13 (nI q.length)) 230 14 (nI e)) 0 (by omega) (by unfold fuel; omega) G1.si.si (w2.wb.pk P) (by rw [si_o2 (by decide), si_s]) (by rw [si_s]) (fun i s hi => by omega)
          have w23 := w2.tr w3
          have G3 := w23.1.Gr hG
          have M3 := w23.ms M
          obtain ⟨h4, e4, w4⟩ := mKept_eq G3 hA M3 hi hm h7 hq he Q3
          have G4 := w4.1.Gr G3
          have w24 := w23.tr w4
          have f32 : mm_I h3 230 32 = nI (br + cntS (brkP A x m (q, e)) i) := by rw [w23.2 32 (by decide) (by decide), c]
          have fin : ∀ d : Nat, (if brkP A x m (q, e) i then 1 else 0) = d → ∃ h', (pI h4 230 10 32 (nI (br + cntS (brkP A x m (q, e)) i + d))).bind (fun h324 => f_X10_hop_L151 k 230 (nI kk) x3 f h324 (nI (i + 1))) = k h' ∧ Wb h h' ∧ mm_I h' 230 32 = nI (br + brkS A x m (q, e)) := by
            intro d ed
            have w5 : Wb h (mm_si h4 230 32 (nI (br + cntS (brkP A x m (q, e)) i + d))) := w24.wb.tr Wb.si32
            obtain ⟨h6, e6, w6, c6⟩ := ih f (mm_si h4 230 32 (nI (br + cntS (brkP A x m (q, e)) i + d))) (i + 1) (by omega) (by omega) G4.si (w5.ms M) (w5.pk P) (by rw [si_s, cntS, ed, Nat.add_assoc])
            exact ⟨h6, by rw [r_P G4, bS]; exact e6, w5.tr w6, c6⟩
          rw [if_neg (show ¬ (1 : Int32) = 0 by decide), r_37 G1, bS, aI_s G1 (by decide) (by decide) (show kk < 40 from hk) r4, bS, r_P G1, bS, r_36 G1.si, bS, aI_s G1.si (by decide) (by decide) (show kk < 40 from hk) P1'.2.2.1, bS, r_P G1.si, bS, show (0 : Int32) = nI 0 from rfl]
          have e3' := e3
          rw [show (0 : Int32) = nI 0 from rfl] at e3'
          rw [e3', r_I G3, bS, f32, r_34 G3, bS, aI_s G3 (by decide) (by decide) (show kk < 40 from hk) (w23.wb.pk P).2.1, bS, e4, bS, show nI 0 = (0 : Int32) from rfl, b2_it, cl_add, cl_add]
          by_cases c4 : metS A i m (q, e) = true
          · rw [if_pos c4]
            exact fin 0 (by unfold brkP; simp [c4])
          · rw [if_neg c4, cl_add]
            exact fin 1 (by unfold brkP; simp [c1, c2, c3, c4])
        · rw [if_neg c3]
          exact skip h1 w1.wb (w1.2 32 (by decide) (by decide)) (by unfold brkP; simp [c3])
      · rw [if_neg c2]
        exact skip h Wb.rf rfl (by unfold brkP; simp [c2])
    · rw [if_neg c1]
      exact skip h Wb.rf rfl (by unfold brkP; simp [c1])
/-- a ring is seen -/
def ringS (q : List Nat) (t : Nat) : Nat := if 100 ≤ t then t else if t ∈ q then 112 else t
theorem ring_L {h : MH} {kk x m : Nat} {q : List Nat} {e : Int32} (hG : Gr h) (hk : kk < 40) (h7 : q.length ≤ 7) (hq : ∀ t ∈ q, t < 7) (P : MPk h kk (x, m, q, e)) (k : Int32 → Option (Int32 × MH)) :
    ∀ (n f t i : Nat), n + i = q.length → n < f → t < 2 ^ 30 → f_X10_hop_L50 k h 230 (nI kk) f (nI t) (nI i) = k (nI (ringS (q.drop i) t))
  | 0, f, t, i, hn, hf, ht => by
    obtain ⟨f, rfl⟩ : ∃ g, f = g + 1 := ⟨f - 1, by omega⟩
    rw [f_X10_hop_L50, r_37 hG, bS, aI_s hG (by decide) (by decide) (show kk < 40 from hk) P.2.2.2.1, bS, in_le (by show q.length < _; omega) (by omega), if_pos (by show q.length ≤ i; omega), List.drop_of_length_le (by omega)]
    unfold ringS
    simp
  | n + 1, f, t, i, hn, hf, ht => by
    obtain ⟨f, rfl⟩ : ∃ g, f = g + 1 := ⟨f - 1, by omega⟩
    have hi : i < q.length := by omega
    have ih := fun t ht => ring_L hG hk h7 hq P k n f t (i + 1) (by omega) (by omega) ht
    have q7 := hq _ (List.getElem_mem hi)
    rw [f_X10_hop_L50, r_37 hG, bS, aI_s hG (by decide) (by decide) (show kk < 40 from hk) P.2.2.2.1, bS, in_le (by show q.length < _; omega) (by omega), if_neg (by show ¬ q.length ≤ i; omega), it_le2 (by omega) (by decide), cl_add, List.drop_eq_getElem_cons hi]
    by_cases c : 100 ≤ t
    · rw [if_pos c, ih t ht]
      unfold ringS
      rw [if_pos c, if_pos c]
    · rw [if_neg c, r_38 hG, bS, cl_mul2, nI_add, aI_s hG (by decide) (by decide) (show 8 * kk + i < 320 by omega) (P.2.2.2.2.2 i q[i] (List.getElem?_eq_getElem hi)), bS, in_eq (by omega) (by omega)]
      by_cases c2 : q[i] = t
      · rw [if_pos c2, show (112 : Int32) = nI 112 from rfl, ih 112 (by decide)]
        unfold ringS
        rw [if_pos (by decide), if_neg c, if_pos (by rw [c2]; simp)]
      · rw [if_neg c2, ih t ht]
        unfold ringS
        rw [if_neg c, if_neg c]
        have : (t ∈ q[i] :: q.drop (i + 1)) ↔ t ∈ q.drop (i + 1) := by
          rw [List.mem_cons]
          exact ⟨fun z => z.resolve_left (fun w => c2 w.symm), Or.inr⟩
        by_cases c3 : t ∈ q.drop (i + 1)
        · rw [if_pos c3, if_pos (this.mpr c3)]
        · rw [if_neg c3, if_neg (fun z => c3 (this.mp z))]
theorem ring_goN {q : List Nat} {t : Nat} (h7 : q.length ≤ 7) (hs : ∀ s ∈ q, s < 7) (hd : q.Nodup) (ht : t < 7 ∨ (100 ≤ t ∧ t < 112)) :
    (ringS q t < 100 ∧ ringS q t = t ∧ t < 7 ∧ goN q t = (q ++ [t], -1) ∧ q.length < 7) ∨ (100 ≤ ringS q t ∧ ringS q t < 113 ∧ goN q t = (q, nI (ringS q t - 100))) := by
  unfold ringS goN
  by_cases c : 100 ≤ t
  · rw [if_pos c, if_pos c]
    exact Or.inr ⟨c, by omega, rfl⟩
  · rw [if_neg c, if_neg c]
    by_cases c2 : t ∈ q
    · rw [if_pos c2, if_pos (Or.inl c2)]
      exact Or.inr ⟨by decide, by decide, rfl⟩
    · have hl : q.length < 7 := by
        apply Decidable.byContradiction
        intro z
        exact c2 (nd_mem hs hd (by omega) (by omega))
      rw [if_neg c2, if_neg (fun z => z.elim c2 (fun z => by omega))]
      exact Or.inl ⟨by omega, rfl, by omega, rfl, hl⟩
end
section
variable {h : MH} {z : ZS}
theorem last_app (q : List Nat) (t : Nat) : (q ++ [t]).getLastD 0 = t := by
  rw [List.getLastD_eq_getLast?]
  simp
theorem y_hop (hz : OkZ z) (hG : Gr h) (M : MX h z) (x : Int32) : ∃ h', f_X10_hop h 230 x = some ((opHop z x).1, h') ∧ MX h' (opHop z x).2 ∧ Only h h' MF := by
  have hA := hz.1
  have hR := hz.2.2.2.2.2
  have R := M.2.2.2.2
  have no : opHop z x = (-1, z) → (∃ h', some ((-1 : Int32), h) = some ((opHop z x).1, h') ∧ MX h' (opHop z x).2 ∧ Only h h' MF) := fun q => by rw [q]; exact ⟨h, rfl, M, Only.rf⟩
  unfold f_X10_hop
  rw [r_K hG]
  cases hr : zR2 z with
  | none =>
    rw [hr] at R
    rw [isPk_0 hG R, bS, if_pos rfl]
    exact no (by unfold opHop; rw [hr])
  | some q =>
    obtain ⟨at_, ch, ps, br⟩ := q
    rw [hr] at R hR
    have hl40 : ps.length ≤ 40 := hR.2.2.1
    have hc : ch < 128 := hR.2.1
    rcases idx_cases x ps.length (by omega) with ⟨k, hk, rfl, ik⟩ | ⟨-, ik, c⟩
    · obtain ⟨p, ep⟩ : ∃ p, ps[k]? = some p := ⟨ps[k], List.getElem?_eq_getElem hk⟩
      obtain ⟨x0, m0, q0, e0⟩ := p
      have ok := hR.2.2.2.1 _ (List.mem_of_getElem? ep)
      obtain ⟨k1, k2, k3, k4, k5, k6, k7⟩ := ok
      have k1 : x0 < sh (zA z) := k1
      have k2 : m0 < 16 := k2
      have k3 : 1 ≤ q0.length := k3
      have k4 : q0.length ≤ 7 := k4
      have k5 : ∀ t ∈ q0, t < 7 := k5
      have k6 : q0.Nodup := k6
      have Q : MPk h k (x0, m0, q0, e0) := R.2.2.2.2.2 k _ ep
      obtain ⟨p1, p2, p3, p4, p5, p6⟩ := id Q
      have p1 : mm_I h 246 k = nI x0 := p1
      have p2 : mm_I h 247 k = nI m0 := p2
      have p3 : mm_I h 249 k = e0 := p3
      have p4 : mm_I h 250 k = nI q0.length := p4
      have p5 : mm_I h 248 k = nI (q0.getLastD 0) := p5
      have p6 : ∀ (i s : Nat), q0[i]? = some s → mm_I h 251 (8 * k + i) = nI s := p6
      have hk40 : k < 40 := by omega
      have eq0 : opHop z (nI k) = if e0 = -1 then
          (if (goN q0 (goS (zA z) ch m0 (q0.getLastD 0))).2 = -1 then (nI (goS (zA z) ch m0 (q0.getLastD 0)), (zA z, zP z, zT z, some (at_, ch, ps.set k (x0, m0, goN q0 (goS (zA z) ch m0 (q0.getLastD 0))), br)))
           else (nI (100 + endN (goN q0 (goS (zA z) ch m0 (q0.getLastD 0))).2), (zA z, zP z, zT z, some (at_, ch, ps.set k (x0, m0, goN q0 (goS (zA z) ch m0 (q0.getLastD 0))), br + brkS (zA z) x0 m0 ((goN q0 (goS (zA z) ch m0 (q0.getLastD 0))).1, endN (goN q0 (goS (zA z) ch m0 (q0.getLastD 0))).2)))))
        else (-1, z) := by
        unfold opHop
        rw [hr]
        show (match idx (nI k) ps.length with | some k => _ | none => _) = _
        rw [ik]
        show (match ps[k]? with | some p => _ | none => _) = _
        rw [ep]
        rfl
      rw [isPk_y hG R hl40 hk, bS, if_neg (by decide), r_36 hG, bS, aI_g hG (by decide) (by decide) (show k < 40 from hk40), p3, bS]
      by_cases c1 : e0 = -1
      · have hs7 := last_lt k3 k5
        have hgo := goS_lt hA (mix := ch) (m := m0) hs7
        rw [if_pos c1, r_35 hG, bS, aI_s hG (by decide) (by decide) (show k < 40 from hk40) p5, bS, r_I hG, bS, R.2.2.1, r_34 hG, bS, aI_s hG (by decide) (by decide) (show k < 40 from hk40) p2, bS, nx_bt hc hs7, goes_eq hG hA M.1 hs7 k2, bS, show (0 : Int32) = nI 0 from rfl, ring_L hG hk40 k4 k5 Q _ q0.length fuel _ 0 (by omega) (by unfold fuel; omega) (by omega), List.drop_zero, show nI 0 = (0 : Int32) from rfl, eq0, if_pos c1]
        generalize goS (zA z) ch m0 (q0.getLastD 0) = t at hgo ⊢
        have rg := ring_goN k4 k5 k6 hgo
        rw [it_le2 (by rcases rg with w | w <;> omega) (by decide)]
        -- the other packets
        have others : ∀ {h' : MH} {p' : PK}, (∀ i, i ≠ k → mm_I h' 246 i = mm_I h 246 i ∧ mm_I h' 247 i = mm_I h 247 i ∧ mm_I h' 248 i = mm_I h 248 i ∧ mm_I h' 249 i = mm_I h 249 i ∧ mm_I h' 250 i = mm_I h 250 i) → (∀ i j, i ≠ k → j < 8 → mm_I h' 251 (8 * i + j) = mm_I h 251 (8 * i + j)) → MPk h' k p' → ∀ (i : Nat) (p : PK), (ps.set k p')[i]? = some p → MPk h' i p := by
          intro h' p' a1 a2 a3 i p hi
          by_cases ei : i = k
          · subst ei
            rw [List.getElem?_set_self hk] at hi
            cases hi
            exact a3
          · rw [List.getElem?_set_ne (fun z => ei z.symm)] at hi
            have := R.2.2.2.2.2 i p hi
            have ok := hR.2.2.2.1 p (List.mem_of_getElem? hi)
            have h7 := ok.2.2.2.1
            obtain ⟨b1, b2, b3, b4, b5⟩ := a1 i ei
            refine ⟨by rw [b1]; exact this.1, by rw [b2]; exact this.2.1, by rw [b4]; exact this.2.2.1, by rw [b5]; exact this.2.2.2.1, by rw [b3]; exact this.2.2.2.2.1, fun a s ha => ?_⟩
            have hal := (List.getElem?_eq_some_iff.mp ha).1
            rw [a2 i a ei (by omega)]
            exact this.2.2.2.2.2 a s ha
        rcases rg with ⟨r1, r2, r3, r4, r5⟩ | ⟨r1, r2, r4⟩
        · rw [if_neg (by omega), r2, r4, if_pos rfl, r_38 hG, bS, r_37 hG, bS, aI_s hG (by decide) (by decide) (show k < 40 from hk40) p4, bS, cl_mul2, nI_add, sI_g hG (by decide) (by decide) (show 8 * k + q0.length < 320 by omega), bS, r_37 hG.si, bS, aI_s hG.si (by decide) (by decide) (show k < 40 from hk40) (by rw [si_o (by decide)]; exact p4), bS, cl_add, sI_g hG.si (by decide) (by decide) (show k < 40 from hk40), bS, r_35 hG.si.si, bS, sI_g hG.si.si (by decide) (by decide) (show k < 40 from hk40), bS]
          generalize hH : mm_si (mm_si (mm_si h 251 (8 * k + q0.length) (nI t)) 250 k (nI (q0.length + 1))) 248 k (nI t) = H
          have e : ∀ a, a ≠ 248 → a ≠ 250 → a ≠ 251 → mm_I H a = mm_I h a := fun a n0 n1 n2 => by rw [← hH, si_c n0, si_c n1, si_c n2]
          have e8 : ∀ i, mm_I H 248 i = if i = k then nI t else mm_I h 248 i := fun i => by
            rw [← hH]
            by_cases c : i = k
            · subst c; rw [si_s, if_pos rfl]
            · rw [si_o2 c, si_o (by decide), si_o (by decide), if_neg c]
          have e50 : ∀ i, mm_I H 250 i = if i = k then nI (q0.length + 1) else mm_I h 250 i := fun i => by
            rw [← hH, si_o (by decide)]
            by_cases c : i = k
            · subst c; rw [si_s, if_pos rfl]
            · rw [si_o2 c, si_o (by decide), if_neg c]
          have e51 : ∀ i, mm_I H 251 i = if i = 8 * k + q0.length then nI t else mm_I h 251 i := fun i => by
            rw [← hH, si_o (by decide), si_o (by decide)]
            by_cases c : i = 8 * k + q0.length
            · subst c; rw [si_s, if_pos rfl]
            · rw [si_o2 c, if_neg c]
          have oM : Only h H MF := by
            rw [← hH]
            exact ((si_m (by omega)).tr (si_m (by omega))).tr (si_m (by omega))
          have ec : ∀ a, 230 ≤ a → a < 248 → mm_I H a = mm_I h a := fun a h1 h2 => e a (by omega) (by omega) (by omega)
          have e230 := ec 230 (by decide) (by decide)
          refine ⟨H, rfl, ⟨M.1.cong (fun k _ => by rw [e230]) (fun a _ _ => ec a (by omega) (by omega)), M.2.1.cong (by rw [e230]) (ec 241 (by decide) (by decide)), ?_, ?_, ?_⟩, oM⟩
          · show MP H (zP z)
            have P := M.2.2.1
            unfold MP at P ⊢
            rw [e230, ec 243 (by decide) (by decide)]; exact P
          · show MT H (zT z)
            have := M.2.2.2.1
            unfold MT at this ⊢
            rw [e230, ec 240 (by decide) (by decide)]; exact this
          · refine ⟨by rw [e230]; exact R.1, by rw [e230]; exact R.2.1, by rw [e230]; exact R.2.2.1, by rw [e230, List.length_set]; exact R.2.2.2.1, by rw [e230]; exact R.2.2.2.2.1, others (fun i hi => ⟨by rw [ec 246 (by decide) (by decide)], by rw [ec 247 (by decide) (by decide)], by rw [e8, if_neg hi], by rw [e 249 (by decide) (by decide) (by decide)], by rw [e50, if_neg hi]⟩) (fun i j hi hj => by rw [e51, if_neg (by omega)]) ⟨by rw [ec 246 (by decide) (by decide)]; exact p1, by rw [ec 247 (by decide) (by decide)]; exact p2, ?_, ?_, ?_, fun i s hi => ?_⟩⟩
            · rw [e 249 (by decide) (by decide) (by decide), p3, c1]
            · rw [e50, if_pos rfl]; simp
            · rw [e8, if_pos rfl]
              show nI t = nI ((q0 ++ [t]).getLastD 0)
              rw [last_app]
            · have hi : (q0 ++ [t])[i]? = some s := hi
              rw [e51]
              by_cases ei : i = q0.length
              · subst ei
                rw [List.getElem?_append_right (Nat.le_refl _)] at hi
                simp at hi
                rw [if_pos rfl, hi]
              · have hlt : i < (q0 ++ [t]).length := (List.getElem?_eq_some_iff.mp hi).1
                simp at hlt
                rw [List.getElem?_append_left (by omega)] at hi
                rw [if_neg (by omega)]
                exact p6 i s hi
        · have ne : ¬ nI (ringS q0 t - 100) = (-1 : Int32) := nI_ne_m1 (by omega)
          have en : endN (nI (ringS q0 t - 100)) = ringS q0 t - 100 := nI_clamp (by omega)
          rw [if_pos r1, r4, if_neg (show ¬ (q0, nI (ringS q0 t - 100)).2 = (-1 : Int32) from ne), show endN (q0, nI (ringS q0 t - 100)).2 = ringS q0 t - 100 from en, show 100 + (ringS q0 t - 100) = ringS q0 t by omega]
          generalize ringS q0 t = T at r1 r2 en ⊢
          rw [cl_sub (by show 100 ≤ T; omega), bS, sI_g hG (by decide) (by decide) (show k < 40 from hk40), bS]
          have e : ∀ a, a ≠ 249 → mm_I (mm_si h 249 k (nI (T - 100))) a = mm_I h a := fun a n0 => si_c n0
          have M1 : MS (mm_si h 249 k (nI (T - 100))) (zA z) := M.1.cong (fun j _ => by rw [e 230 (by decide)]) (fun a _ _ => e a (by omega))
          have Q1 : MPk (mm_si h 249 k (nI (T - 100))) k (x0, m0, q0, nI (T - 100)) := ⟨by rw [e 246 (by decide)]; exact p1, by rw [e 247 (by decide)]; exact p2, si_s, by rw [e 250 (by decide)]; exact p4, by rw [e 248 (by decide)]; exact p5, fun i s hi => by rw [e 251 (by decide)]; exact p6 i s hi⟩
          obtain ⟨h2, e2, w2, f2⟩ := brk_L (x3 := nI T) hA hk40 k1 k2 k4 k5 (show T - 100 < 13 by omega) (br := br) (fun he333 => some (nI T, he333)) (sw (zA z)) fuel (mm_si h 249 k (nI (T - 100))) 0 (by omega) (by have := hA.2.2.2.2.2.2.1; unfold fuel; omega) hG.si M1 Q1 (by rw [si_o (by decide), R.2.2.2.2.1]; rfl)
          have w : ∀ j, j ≠ 13 → j ≠ 14 → j ≠ 32 → mm_I h2 230 j = mm_I h 230 j := fun j n1 n2 n3 => by rw [w2.2 j n1 n2 n3, e 230 (by decide)]
          have ec : ∀ a, a ≠ 230 → a ≠ 237 → a ≠ 238 → a ≠ 249 → mm_I h2 a = mm_I h a := fun a n0 n1 n2 n3 => by rw [w2.1.2.2.2.2.2 a (by omega), e a n3]
          have e49 : ∀ i, i ≠ k → mm_I h2 249 i = mm_I h 249 i := fun i hi => by rw [w2.1.2.2.2.2.2 249 (by decide), si_o2 hi]
          have oM : Only h h2 MF := (si_m (by omega)).tr (w2.1.mono (fun a q => by unfold MF; omega))
          refine ⟨h2, e2, ⟨M.1.cong (fun j _ => w j (by omega) (by omega) (by omega)) (fun a _ _ => ec a (by omega) (by omega) (by omega) (by omega)), M.2.1.cong (w 21 (by decide) (by decide) (by decide)) (ec 241 (by decide) (by decide) (by decide) (by decide)), ?_, ?_, ?_⟩, oM⟩
          · show MP h2 (zP z)
            have P := M.2.2.1
            unfold MP at P ⊢
            rw [w 24 (by decide) (by decide) (by decide), ec 243 (by decide) (by decide) (by decide) (by decide)]; exact P
          · show MT h2 (zT z)
            have := M.2.2.2.1
            unfold MT at this ⊢
            rw [w 19 (by decide) (by decide) (by decide), w 20 (by decide) (by decide) (by decide), ec 240 (by decide) (by decide) (by decide) (by decide)]; exact this
          · refine ⟨by rw [w 28 (by decide) (by decide) (by decide)]; exact R.1, by rw [w 29 (by decide) (by decide) (by decide)]; exact R.2.1, by rw [w 30 (by decide) (by decide) (by decide)]; exact R.2.2.1, by rw [w 31 (by decide) (by decide) (by decide), List.length_set]; exact R.2.2.2.1, f2, others (fun i hi => ⟨by rw [ec 246 (by decide) (by decide) (by decide) (by decide)], by rw [ec 247 (by decide) (by decide) (by decide) (by decide)], by rw [ec 248 (by decide) (by decide) (by decide) (by decide)], e49 i hi, by rw [ec 250 (by decide) (by decide) (by decide) (by decide)]⟩) (fun i j hi hj => by rw [ec 251 (by decide) (by decide) (by decide) (by decide)]) (w2.pk Q1)⟩
      · rw [if_neg c1]
        exact no (by rw [eq0, if_neg c1])
    · rw [isPk_n hG R hl40 c, bS, if_pos rfl]
      refine no ?_
      unfold opHop
      rw [hr]
      show (match idx x ps.length with | some k => _ | none => _) = _
      rw [ik]
end

/-! ===== every call keeps what holds ===== -/
section
variable {z : ZS}
theorem ok_of {A : SA} (hz : OkV z) (q : OkA A ∧ OkL A ∧ OkW A ∧ InN A) : OkV (freshZ z A) := ok_fresh q.1 q.2.1 q.2.2.1 q.2.2.2 hz
theorem k_net (hz : OkV z) (x : Int32) : OkV (opNet z x).2 := by
  rcases idx_cases x 8 (by omega) with ⟨n, hn, rfl, i⟩ | ⟨-, i, -⟩
  · by_cases c : n = 0
    · have e : opNet z (nI n) = (0, z) := by unfold opNet; rw [i]; simp only [c]; rfl
      rw [e]; exact hz
    · have e : opNet z (nI n) = (1, freshZ z (netA n)) := by unfold opNet; rw [i]; simp only [c]; rfl
      rw [e]; exact ok_of hz (netA_ok (by omega) (by omega))
  · have e : opNet z x = (0, z) := by unfold opNet; rw [i]
    rw [e]; exact hz
theorem k_link (hz : OkV z) (a b c d : Int32) : OkV (opLink z a b c d).2 := by
  have h7 := hz.1.1.2.1
  unfold opLink
  split
  · rename_i s p t q e1 e2 e3 e4
    have hs : s < sn (zA z) := by
      rcases idx_cases a (sn (zA z)) (by omega) with ⟨j, hj, -, i⟩ | ⟨-, i, -⟩
      · rw [i] at e1; cases e1; exact hj
      · rw [i] at e1; cases e1
    have hp : p < 4 := by
      rcases idx_cases b 4 (by omega) with ⟨j, hj, -, i⟩ | ⟨-, i, -⟩
      · rw [i] at e2; cases e2; exact hj
      · rw [i] at e2; cases e2
    have ht : t < sn (zA z) := by
      rcases idx_cases c (sn (zA z)) (by omega) with ⟨j, hj, -, i⟩ | ⟨-, i, -⟩
      · rw [i] at e3; cases e3; exact hj
      · rw [i] at e3; cases e3
    have hq : q < 4 := by
      rcases idx_cases d 4 (by omega) with ⟨j, hj, -, i⟩ | ⟨-, i, -⟩
      · rw [i] at e4; cases e4; exact hj
      · rw [i] at e4; cases e4
    split
    · exact hz
    · rename_i c
      have c1 : s ≠ t := fun w => c (Or.inl w)
      have c2 : sp (zA z) (4 * s + p) = 0 := Decidable.byContradiction (fun w => c (Or.inr (Or.inl w)))
      have c3 : sp (zA z) (4 * t + q) = 0 := Decidable.byContradiction (fun w => c (Or.inr (Or.inr w)))
      exact ok_of hz (linkA_ok hz.1.1 hz.1.2.1 hz.1.2.2.1 hz.2.1 (by omega) (by omega) (by omega) c2 c3 (by omega) (by omega))
  · exact hz
theorem k_host (hz : OkV z) (a b : Int32) : OkV (opHost z a b).2 := by
  have h7 := hz.1.1.2.1
  have h6 := hz.1.1.2.2.1
  unfold opHost
  split
  · rename_i s p e1 e2
    have hs : s < sn (zA z) := by
      rcases idx_cases a (sn (zA z)) (by omega) with ⟨j, hj, -, i⟩ | ⟨-, i, -⟩
      · rw [i] at e1; cases e1; exact hj
      · rw [i] at e1; cases e1
    have hp : p < 4 := by
      rcases idx_cases b 4 (by omega) with ⟨j, hj, -, i⟩ | ⟨-, i, -⟩
      · rw [i] at e2; cases e2; exact hj
      · rw [i] at e2; cases e2
    split
    · exact hz
    · rename_i c
      have c2 : sp (zA z) (4 * s + p) = 0 := Decidable.byContradiction (fun w => c (Or.inl w))
      have c3 : ¬ sh (zA z) = 6 := fun w => c (Or.inr w)
      exact ok_of hz (hostA_ok hz.1.1 hz.1.2.1 hz.1.2.2.1 hz.2.1 (by omega) c2 (by omega) (by omega))
  · exact hz
theorem k_unplug (hz : OkV z) (a b : Int32) : OkV (opUnplug z a b).2 := by
  have h7 := hz.1.1.2.1
  have h6 := hz.1.1.2.2.1
  unfold opUnplug
  split
  · rename_i s p e1 e2
    have hs : s < sn (zA z) := by
      rcases idx_cases a (sn (zA z)) (by omega) with ⟨j, hj, -, i⟩ | ⟨-, i, -⟩
      · rw [i] at e1; cases e1; exact hj
      · rw [i] at e1; cases e1
    have hp : p < 4 := by
      rcases idx_cases b 4 (by omega) with ⟨j, hj, -, i⟩ | ⟨-, i, -⟩
      · rw [i] at e2; cases e2; exact hj
      · rw [i] at e2; cases e2
    have ok := hz.1.1.2.2.2.1 (4 * s + p) (by omega)
    split
    · exact hz
    · split
      · exact ok_of hz (unlA_ok hz.1.1 hz.1.2.1 hz.1.2.2.1 hz.2.1 (by omega) (by omega) (by omega) rfl)
      · split
        · rename_i c
          exact ok_of hz (unhA_ok hz.1.1 hz.1.2.1 hz.1.2.2.1 hz.2.1 (by omega) c.1 (by omega) c.2)
        · exact hz
  · exact hz
theorem idx_lt {x : Int32} {n j : Nat} (hn : n < 2 ^ 31) (e : idx x n = some j) : j < n ∧ x = nI j := by
  rcases idx_cases x n hn with ⟨i, hi, ex, q⟩ | ⟨-, q, -⟩
  · rw [q] at e; cases e; exact ⟨hi, ex⟩
  · rw [q] at e; cases e
theorem k_rule (hz : OkV z) (x1 x2 x3 x4 x5 x6 : Int32) : OkV (opRule z x1 x2 x3 x4 x5 x6).2 := by
  have h7 := hz.1.1.2.1
  unfold opRule
  split
  · rename_i bk s v b rk ac e1 e2 e3 e4 e5 e6
    have h1 := (idx_lt (by omega) e1).1
    have h2 := (idx_lt (by omega) e2).1
    have h3 := (idx_lt (by omega) e3).1
    have h4 := (idx_lt (by omega) e4).1
    have h5 := (idx_lt (by omega) e5).1
    have h6 := (idx_lt (by omega) e6).1
    have ok := hz.1.1.okD (r := 7 * bk + s) (by omega)
    split
    · exact hz
    · rename_i c
      refine ok_of hz (rowA_ok (r := 7 * bk + s) (c := sc (zA z) (7 * bk + s) + 1) (d := addD (sd (zA z) (7 * bk + s)) (sc (zA z) (7 * bk + s)) (four v b rk ac)) hz.1.1 hz.1.2.1 hz.1.2.2.1 hz.2.1 ⟨by have := ok.1; omega, fun i hi => ?_⟩)
      unfold addD
      by_cases ei : i = sc (zA z) (7 * bk + s)
      · rw [if_pos ei, if_pos ei, if_pos ei, if_pos ei]
        exact ⟨show v ≤ 15 by omega, show b ≤ 15 by omega, show rk ≤ 9 by omega, show ac ≤ 4 by omega⟩
      · rw [if_neg ei, if_neg ei, if_neg ei, if_neg ei]
        exact ok.2 i (by omega)
  · exact hz
theorem k_strike (hz : OkV z) (x1 x2 x3 : Int32) : OkV (opStrike z x1 x2 x3).2 := by
  have h7 := hz.1.1.2.1
  unfold opStrike
  split
  · rename_i bk s e1 e2
    have h1 := (idx_lt (by omega) e1).1
    have h2 := (idx_lt (by omega) e2).1
    have ok := hz.1.1.okD (r := 7 * bk + s) (by omega)
    split
    · rename_i i e3
      have h6 := ok.1
      have h3 := (idx_lt (by omega) e3).1
      refine ok_of hz (rowA_ok (r := 7 * bk + s) (c := sc (zA z) (7 * bk + s) - 1) (d := cutD (sd (zA z) (7 * bk + s)) i) hz.1.1 hz.1.2.1 hz.1.2.2.1 hz.2.1 ⟨by omega, fun j hj => ?_⟩)
      unfold cutD
      by_cases ei : j < i
      · rw [if_pos ei, if_pos ei, if_pos ei, if_pos ei]
        exact ok.2 j (by omega)
      · rw [if_neg ei, if_neg ei, if_neg ei, if_neg ei]
        exact ok.2 (j + 1) (by omega)
    · exact hz
  · exact hz
theorem k_copy (hz : OkV z) (x1 x2 : Int32) : OkV (opCopy z x1 x2).2 := by
  have h7 := hz.1.1.2.1
  unfold opCopy
  split
  · rename_i s e1
    have h1 := (idx_lt (by omega) e1).1
    split
    · exact ok_of hz (rowA_ok (r := s) (c := sc (zA z) (7 + s)) (d := sd (zA z) (7 + s)) hz.1.1 hz.1.2.1 hz.1.2.2.1 hz.2.1 (hz.1.1.okD (by omega)))
    · exact ok_of hz (rowA_ok (r := 7 + s) (c := sc (zA z) s) (d := sd (zA z) s) hz.1.1 hz.1.2.1 hz.1.2.2.1 hz.2.1 (hz.1.1.okD (by omega)))
  · exact hz
theorem k_want (hz : OkV z) (k v b a c s : Int32) : OkV (opWant z k v b a c s).2 := by
  have h7 := hz.1.1.2.1
  have h6 := hz.1.1.2.2.1
  have h10 := hz.1.1.2.2.2.2.2.2.1
  unfold opWant
  split
  · rename_i q v' b' a' e1 e2 e3 e4
    have h1 := idx_lt (by omega) e1
    have h2 := idx_lt (by omega) e2
    have h3 := idx_lt (by omega) e3
    have h4 := idx_lt (by omega) e4
    split
    · exact hz
    · rename_i cc
      have kq : ∀ m, m < 5 → k = nI m → q = m := fun m hm e => nI_inj (by omega) (by omega) (h1.2.symm.trans e)
      have h10n : ¬ sw (zA z) = 10 := fun w => cc (Or.inl w)
      have h10' : sw (zA z) < 10 := by omega
      refine ok_of hz (wantA_ok hz.1.1 hz.1.2.1 hz.1.2.2.1 hz.2.1 h10' ⟨⟨q, by omega, h1.2⟩, ⟨v', by omega, h2.2⟩, ⟨b', by omega, h3.2⟩, ⟨a', h4.1, h4.2⟩, fun e => ?_⟩ (fun e => ?_))
      · have e : q = 3 := kq 3 (by decide) e
        have hne : idx s (sn (zA z)) ≠ none := fun w => cc (Or.inr (Or.inr ⟨e, w⟩))
        rcases idx_cases s (sn (zA z)) (by omega) with ⟨t, ht, et, -⟩ | ⟨-, i, -⟩
        · exact ⟨t, by omega, et⟩
        · exact absurd i hne
      · have e : q = 0 ∨ q = 2 ∨ q = 3 := by
          rcases e with e | e | e
          · exact Or.inl (kq 0 (by decide) e)
          · exact Or.inr (Or.inl (kq 2 (by decide) e))
          · exact Or.inr (Or.inr (kq 3 (by decide) e))
        have hne : idx c (sh (zA z)) ≠ none := fun w => cc (Or.inr (Or.inl ⟨e, w⟩))
        rcases idx_cases c (sh (zA z)) (by omega) with ⟨t, ht, et, -⟩ | ⟨-, i, -⟩
        · exact ⟨t, ht, et⟩
        · exact absurd i hne
  · exact hz
theorem k_unwant (hz : OkV z) (x : Int32) : OkV (opUnwant z x).2 := by
  have h10 := hz.1.1.2.2.2.2.2.2.1
  unfold opUnwant
  split
  · rename_i i e
    have h1 := (idx_lt (by omega) e).1
    exact ok_of hz (unwantA_ok hz.1.1 hz.1.2.1 hz.1.2.2.1 hz.2.1 h1)
  · exact hz
theorem k_way (hz : OkV z) (x y w : Int32) : OkV (opWay z x y w).2 := by
  have hp := all_pow hz.1.1
  have h6 := hz.1.1.2.2.1
  unfold opWay
  split
  · rename_i mx a m e1 e2 e3
    have h2 := (idx_lt (by omega) e2).1
    have wo := way_ok hz.1.1 (mix := mx) (m := m) h2
    exact ⟨⟨hz.1.1, hz.1.2.1, hz.1.2.2.1, hz.1.2.2.2.1, ⟨wo.2.1, wo.1⟩, hz.1.2.2.2.2.2⟩, hz.2⟩
  · exact hz
theorem ok_plan {l : List Nat} (hz : OkV z) (P : OkP (zA z) l) : OkV (zA z, l, zT z, none) := ⟨⟨hz.1.1, hz.1.2.1, hz.1.2.2.1, P, hz.1.2.2.2.2.1, trivial⟩, hz.2.1, trivial⟩
theorem k_least (hz : OkV z) : OkV (opLeast z).2 := by
  unfold opLeast
  split
  · rename_i c; exact ok_plan hz (least_ok hz.1.1 c)
  · exact hz
theorem k_order (hz : OkV z) (x : Int32) : OkV (opOrder z x).2 := by
  have hos := OS_lt hz.1.1 (show 0 < 128 by decide)
  unfold opOrder
  split
  · rename_i r e
    have h1 := (idx_lt (by omega) e).1
    have := ord_ok hz.1.1 7 [] 0 r rfl OkP.nil rfl (by decide) h1
    exact ok_plan hz (by simpa using this)
  · exact hz
theorem k_round (hz : OkV z) (x : Int32) : OkV (opRound z x).2 := by
  unfold opRound
  split
  · rename_i s e
    have h1 := (idx_lt (by omega) e).1
    split
    · exact hz
    · rename_i c
      have c0 : ¬ s = 0 := fun w => c (Or.inl w)
      have c1 : wi s (unlikeS (zA z)) = true := by
        cases hq : wi s (unlikeS (zA z)) with
        | true => rfl
        | false => exact absurd (Or.inr (Or.inl hq)) c
      have c2 : unS (zP z) &&& s = 0 := Decidable.byContradiction (fun w => c (Or.inr (Or.inr w)))
      exact ok_plan hz (hz.1.2.2.2.1.app (rd_room hz.1.1 hz.1.2.2.2.1 h1 (by omega) c2) (by omega) c1 c2)
  · exact hz
theorem k_empty (hz : OkV z) : OkV (opEmpty z) := ok_plan hz OkP.nil
theorem ok_run {r : RN} (hz : OkV z) (R : OkR (zA z) (zP z) (some r)) (B : OkB (some r)) : OkV (zA z, zP z, zT z, some r) := ⟨⟨hz.1.1, hz.1.2.1, hz.1.2.2.1, hz.1.2.2.2.1, hz.1.2.2.2.2.1, R⟩, hz.2.1, B⟩
theorem k_begin (hz : OkV z) : OkV (opBegin z).2 := by
  unfold opBegin
  split
  · exact hz
  · exact ok_run hz ⟨Nat.zero_le _, by decide, by simp, fun p hp => by simp at hp, by simp⟩ (by show 0 + 10 * undS [] ≤ 10 * 0; decide)
theorem k_send (hz : OkV z) (x y : Int32) : OkV (opSend z x y).2 := by
  have h6 := hz.1.1.2.2.1
  have hR := hz.1.2.2.2.2.2
  unfold opSend
  split
  · rename_i a ch ps br j m er e1 e2
    have h1 := (idx_lt (by omega) e1).1
    have h2 := (idx_lt (by omega) e2).1
    rw [er] at hR
    obtain ⟨r1, r2, r3, r4, r5⟩ := hR
    split
    · exact hz
    · rename_i c
      have hq := hz.1.1.2.2.2.2.1 j h1
      have hB := hz.2.2
      rw [er] at hB
      have hB : br + 10 * undS ps ≤ 10 * ps.length := hB
      refine ok_run hz ⟨r1, r2, by simp; omega, fun p hp => ?_, by simp; omega⟩ ?_
      · rcases List.mem_append.mp hp with w | w
        · exact r4 p w
        · simp at w
          subst w
          exact ⟨h1, h2, by simp, by simp, fun t ht => by simp at ht; omega, by simp, Or.inl rfl⟩
      · show br + 10 * undS (ps ++ [(j, m, [sq (zA z) j / 4], -1)]) ≤ 10 * (ps ++ [(j, m, [sq (zA z) j / 4], (-1 : Int32))]).length
        rw [und_app, if_pos rfl, List.length_append, List.length_singleton]; omega
  · exact hz
theorem brk_le (A : SA) (hA : OkA A) (x m : Nat) (w : List Nat × Nat) : brkS A x m w ≤ 10 := by
  have := cnt_le (brkP A x m w) (sw A)
  have := hA.2.2.2.2.2.2.1
  rw [brk_def]; omega
theorem mem_set {ps : List PK} {k : Nat} {p q : PK} (h : q ∈ ps.set k p) : q ∈ ps ∨ q = p := List.mem_or_eq_of_mem_set h
theorem k_hop (hz : OkV z) (x : Int32) : OkV (opHop z x).2 := by
  have hA := hz.1.1
  have hR := hz.1.2.2.2.2.2
  have hB := hz.2.2
  cases hr : zR2 z with
  | none =>
    have e : opHop z x = (-1, z) := by unfold opHop; rw [hr]
    rw [e]; exact hz
  | some q =>
    obtain ⟨at_, ch, ps, br⟩ := q
    rw [hr] at hR hB
    have hB : br + 10 * undS ps ≤ 10 * ps.length := hB
    obtain ⟨r1, r2, r3, r4, r5⟩ := hR
    rcases idx_cases x ps.length (by omega) with ⟨k, hk, rfl, ik⟩ | ⟨-, ik, c⟩
    · obtain ⟨p, ep⟩ : ∃ p, ps[k]? = some p := ⟨ps[k], List.getElem?_eq_getElem hk⟩
      have ok := r4 p (List.mem_of_getElem? ep)
      obtain ⟨k1, k2, k3, k4, k5, k6, k7⟩ := ok
      have eq0 : opHop z (nI k) = if p.2.2.2 = -1 then
          (if (hopP (zA z) ch p).2.2.2 = -1 then (nI (goS (zA z) ch p.2.1 (p.2.2.1.getLastD 0)), (zA z, zP z, zT z, some (at_, ch, ps.set k (hopP (zA z) ch p), br)))
           else (nI (100 + endN (hopP (zA z) ch p).2.2.2), (zA z, zP z, zT z, some (at_, ch, ps.set k (hopP (zA z) ch p), br + brkS (zA z) p.1 p.2.1 ((hopP (zA z) ch p).2.2.1, endN (hopP (zA z) ch p).2.2.2)))))
        else (-1, z) := by
        unfold opHop
        rw [hr]
        show (match idx (nI k) ps.length with | some k => _ | none => _) = _
        rw [ik]
        show (match ps[k]? with | some p => _ | none => _) = _
        rw [ep]
      rw [eq0]
      by_cases c1 : p.2.2.2 = -1
      · rw [if_pos c1]
        have hs7 := last_lt k3 k5
        have hgo := goS_lt hA (mix := ch) (m := p.2.1) hs7
        have uset := und_set ps k p (hopP (zA z) ch p) ep
        have upos := und_pos ps k p ep c1
        rw [if_pos c1] at uset
        have ok' := goN_ok k4 k3 k5 k6 hgo
        have okk : OkK (zA z) (hopP (zA z) ch p) := by
          refine ⟨k1, k2, ?_⟩
          show 1 ≤ (goN p.2.2.1 (goS (zA z) ch p.2.1 (p.2.2.1.getLastD 0))).1.length ∧ (goN p.2.2.1 (goS (zA z) ch p.2.1 (p.2.2.1.getLastD 0))).1.length ≤ 7 ∧ (∀ t ∈ (goN p.2.2.1 (goS (zA z) ch p.2.1 (p.2.2.1.getLastD 0))).1, t < 7) ∧ (goN p.2.2.1 (goS (zA z) ch p.2.1 (p.2.2.1.getLastD 0))).1.Nodup ∧ ((goN p.2.2.1 (goS (zA z) ch p.2.1 (p.2.2.1.getLastD 0))).2 = -1 ∨ ∃ e, e < 13 ∧ (goN p.2.2.1 (goS (zA z) ch p.2.1 (p.2.2.1.getLastD 0))).2 = nI e)
          rcases ok' with ⟨a1, a2, a3, a4, a5⟩ | ⟨a1, a2⟩
          · rw [a2]
            exact ⟨by simp, by simp; omega, fun t ht => (List.mem_append.mp ht).elim (k5 t) (fun w => by rw [List.mem_singleton.mp w]; exact a3), nd_app k6 a5, Or.inl a1⟩
          · rw [a1]
            exact ⟨k3, k4, k5, k6, Or.inr a2⟩
        have all4 : ∀ q ∈ ps.set k (hopP (zA z) ch p), OkK (zA z) q := fun q hq => (mem_set hq).elim (r4 q) (fun w => w ▸ okk)
        by_cases c2 : (hopP (zA z) ch p).2.2.2 = -1
        · rw [if_pos c2] at uset ⊢
          refine ok_run hz ⟨r1, r2, by rw [List.length_set]; exact r3, all4, by rw [List.length_set]; exact r5⟩ ?_
          show br + 10 * undS (ps.set k (hopP (zA z) ch p)) ≤ 10 * (ps.set k (hopP (zA z) ch p)).length
          rw [List.length_set]; omega
        · rw [if_neg c2] at uset ⊢
          have bl := brk_le (zA z) hA p.1 p.2.1 ((hopP (zA z) ch p).2.2.1, endN (hopP (zA z) ch p).2.2.2)
          refine ok_run hz ⟨r1, r2, by rw [List.length_set]; exact r3, all4, by rw [List.length_set]; omega⟩ ?_
          show br + brkS (zA z) p.1 p.2.1 ((hopP (zA z) ch p).2.2.1, endN (hopP (zA z) ch p).2.2.2) + 10 * undS (ps.set k (hopP (zA z) ch p)) ≤ 10 * (ps.set k (hopP (zA z) ch p)).length
          rw [List.length_set]; omega
      · rw [if_neg c1]; exact hz
    · have e : opHop z x = (-1, z) := by
        unfold opHop
        rw [hr]
        show (match idx x ps.length with | some k => _ | none => _) = _
        rw [ik]
      rw [e]; exact hz
theorem k_change (hz : OkV z) (x : Int32) : OkV (opChange z x).2 := by
  have h7 := hz.1.1.2.1
  have hR := hz.1.2.2.2.2.2
  have hB := hz.2.2
  unfold opChange
  split
  · rename_i a ch ps br s er e1
    have h1 := (idx_lt (by omega) e1).1
    rw [er] at hR hB
    obtain ⟨r1, r2, r3, r4, r5⟩ := hR
    split
    · exact hz
    · exact ok_run hz ⟨r1, (or_gt r2 (show s < 7 by omega)).2, r3, r4, r5⟩ hB
  · exact hz
theorem k_next (hz : OkV z) : OkV (opNext z).2 := by
  have hR := hz.1.2.2.2.2.2
  have hB := hz.2.2
  unfold opNext
  split
  · rename_i a ch ps br er
    rw [er] at hR hB
    obtain ⟨r1, r2, r3, r4, r5⟩ := hR
    split
    · rename_i c
      exact ok_run hz ⟨by omega, r2, r3, r4, r5⟩ hB
    · exact hz
  · exact hz
end

/-! ===== calls ===== -/
def md_ws (M : MD) : List Cond := .code (md_y M) (md_c M) (md_l M) (md_r M) :: gtb
def ent (M : MD) (vs : List Value) : List (Option Value) := vs.map some ++ List.replicate (md_l M - vs.length) none
/-- what the tables say of a method -/
def MOk (M : MD) : Prop := plainName (md_y M).cls = true ∧ Cond.code (md_y M) (md_c M) (md_l M) (md_r M) ∈ gtb ∧ Cond.initialized (md_y M).cls ∈ gtb ∧ (md_y M).cls = md_o M ∧ (md_i M = true → (md_y M).name = "<init>") ∧ md_l M ≤ 21 ∧ ((md_y M).cls ≠ "java/lang/invoke/MethodHandle" ∧ (md_y M).cls ≠ "java/lang/invoke/VarHandle") ∧ md_o M ≠ RL
def cc_P (G : GG) (vs : List Value) (h : MH) : Array Value → State → Prop := va_Pc (vs.map (cv G)) (fun U => U.heap.size = gg_b G + mm_N h ∧ va_P (gg_D G) vwCl (mm_w (gg_t G) (gg_b G) h) U.heap ∧ va_K (gg_D G) vwCl (gg_tys G) U ∧ NW U)
def cc_Q (G : GG) (v : Option Value) (h' : MH) : Array Value → State → Outcome → State → Prop := fun _ s0 oc t => oc = .returned (v.map (cv G)) ∧ va_P (gg_D G) vwCl (mm_w (gg_t G) (gg_b G) h') t.heap ∧ t.heap.size = gg_b G + mm_N h' ∧ va_F (fun q => gg_b G ≤ q) s0 t
def cc_R (d : Nat) (h h' : MH) : Room := { frames := d, cells := mm_N h' - mm_N h, slots := mm_S h' - mm_S h, locals := 40 * d }
theorem lg_sl_map (G : GG) (vs : List Value) : (lg_sl (vs.map (cv G))).length = vs.length := by
  induction vs with
  | nil => rfl
  | cons v t ih =>
    have hc := cv_cat G v
    have hc2 : ¬ (cv G v).category = 2 := by omega
    simp only [List.map_cons, List.length_cons]
    rw [← ih]
    simp [lg_sl, hc2]
theorem lv_args_in (G : GG) : ∀ (vs : List Value) (j i : Nat) (v : Value), vs[i]? = some v → (j + i, cv G v) ∈ lv_args j (vs.map (cv G)) := by
  intro vs
  induction vs with
  | nil => intro j i v h; simp at h
  | cons w t ih =>
    intro j i v h
    have hc2 : ¬ (cv G w).category = 2 := by have := cv_cat G w; omega
    simp only [List.map_cons, lv_args, if_neg hc2]
    cases i with
    | zero => simp at h; subst h; exact List.mem_cons_self
    | succ i =>
      have h2 : t[i]? = some v := by simpa using h
      have := ih (j + 1) i v h2
      rw [show j + (i + 1) = j + 1 + i by omega]
      exact List.mem_cons_of_mem _ this
theorem mm_l_ent {G : GG} {M : MD} {vs : List Value} (hn : vs.length ≤ md_l M) : mm_l G (md_l M) ((lg_sl (vs.map (cv G)) ++ List.replicate (md_l M - (lg_sl (vs.map (cv G))).length) Slot.unset).toArray) (ent M vs) := by
  have h := lv_entry (vs.map (cv G)) (n := md_l M) (by rw [lg_sl_map]; exact hn)
  refine ⟨h.1, h.2.1, by simp [ent]; omega, fun i v hv => ?_⟩
  have hi : vs[i]? = some v := by
    by_cases hlt : i < vs.length
    · rw [ent, List.getElem?_append_left (by simpa using hlt), List.getElem?_map] at hv
      cases hx : vs[i]? with
      | none => rw [hx] at hv; simp at hv
      | some u => rw [hx] at hv; simp at hv; rw [hv]
    · rw [ent, List.getElem?_append_right (by simpa using Nat.not_lt.mp hlt)] at hv
      have := List.getElem?_replicate (a := (none : Option Value)) (n := md_l M - vs.length) (i := i - (vs.map some).length)
      rw [this] at hv
      split at hv <;> simp at hv
  have := lv_args_in G vs 0 i v hi
  rw [Nat.zero_add] at this
  exact h.2.2 _ this
theorem ev_met {G : GG} {d : Nat} {M : MD} {vs : List Value} {h : MH} {v : Option Value} {h' : MH} (hM : MOk M) (hn : vs.length ≤ md_l M) (E : Ev G d M 0 (ent M vs) [] h v h') :
    Met (gg_l G) (md_y M) (md_ws M) (cc_R d h h') (cc_P G vs h) (cc_Q G v h') (mm_N h' - mm_N h) (mm_S h' - mm_S h) (fun q => gg_b G ≤ q) := by
  refine Met.ofW (cc := md_c M) (maxL := md_l M) (ret := md_r M) hM.1 rfl ?_
  intro p e s m args below meth c s₁ B hml hv
  obtain ⟨rfl, hsz, hP, hK, hN⟩ := hv
  have hts0 := atoms_spec (ws := md_ws M) B.pre
  have hown : s.vm.findClass (md_y M).cls = some m.cls := findClass_of_methodNamed B.named
  have hlocks := B.notSynchronized
  have hr := B.returns
  rw [lg_entry_eq]
  have C : Cx G d M p (headSpec (md_ws M) (cc_R d h h')).room s m ((vs.map (cv G)).toArray) meth c := by
    refine ⟨B.exec, B.bytes, hml, by rw [← hM.2.2.2.1]; exact hown, fun w hw => hts0 w (List.mem_cons_of_mem _ hw), hN, hK, by omega, fun hi => ?_, ⟨Nat.le_refl _, Nat.le_refl _⟩, fun hl => absurd hl hM.2.2.2.2.2.2.2⟩
    rw [← hM.2.2.2.2.1 hi]
    exact (name_of_methodNamed B.named B.method).1
  have K := E.2 p e (headSpec (md_ws M) (cc_R d h h')).room s m ((vs.map (cv G)).toArray) below meth c (MQ below (cc_Q G v h') ((vs.map (cv G)).toArray) s (mm_N h' - mm_N h) (mm_S h' - mm_S h) (fun q => gg_b G ≤ q)) s.heap [] _ (mm_N h) (mm_S h) C ⟨hP, va_S.rf, hsz⟩ (mm_l_ent hn) (Nat.le_refl _) (Nat.le_refl _) (Nat.le_refl _) (Nat.le_refl _) ?_
  · rw [Nat.sub_self, Nat.sub_self] at K
    exact K
  · intro H' locs' ls' pc' w' hret
    rcases hret with ⟨rfl, hdg, hrr⟩ | ⟨x, ty, rfl, hdg, hrr, hnr⟩ | ⟨u, nm, rfl, hu, hdg, hrr⟩
    · exact W.vret B.exec B.bytes (hr.trans hrr) (fun t ht hW => ⟨rfl, by rw [ht]; exact w'.1, by rw [ht]; exact w'.2.2, w'.2.1.F ht⟩) w'.2.1.2.2 hdg
    · exact W.zret B.exec B.bytes (hr.trans hrr) hnr (fun t ht hW => ⟨rfl, by rw [ht]; exact w'.1, by rw [ht]; exact w'.2.2, w'.2.1.F ht⟩) w'.2.1.2.2 hdg
    · exact W.aret B.exec B.bytes (hr.trans hrr) (Or.inl ⟨nm, rfl⟩) (by rcases hu with rfl | ⟨a, rfl⟩; exact Or.inl rfl; exact Or.inr ⟨_, rfl⟩) (fun t ht hW => ⟨rfl, by rw [ht]; exact w'.1, by rw [ht]; exact w'.2.2, w'.2.1.F ht⟩) w'.2.1.2.2 hdg
theorem cc_blind {G : GG} {vs : List Value} {h : MH} : FrameBlind (cc_P G vs h) := by
  intro a U g mk q
  obtain ⟨q0, q1, qP, qK, qN⟩ := q
  exact ⟨q0, q1, qP, va_K.moved (u := U) (U := U.calling g mk a) (Vm.Alike.refl U.vm) qK, qN.calling⟩
theorem md_good {M : MD} (hM : MOk M) : ∀ w ∈ md_ws M, w ∈ gtb := fun w hw => (List.mem_cons.mp hw).elim (fun e => e ▸ hM.2.1) id
theorem cv_sum (G : GG) (st : List Value) : ((st.map (cv G)).map fun v => v.category).sum = st.length := by
  induction st with
  | nil => rfl
  | cons v t ih => simp only [List.map_cons, List.sum_cons, List.length_cons, ih, cv_cat]; omega
section
variable {G : GG} {d : Nat} {M : MD} {pc nx : Nat} {lc : List (Option Value)} {rest : List Value} {h : MH} {v : Option Value} {h' : MH} {d2 : Nat} {N : MD} {vs : List Value} {v1 : Option Value} {h1 : MH}
/-- behind a call -/
theorem ev_after {p : Program} {e : Env} {R : Room} {s : State} {m : MethodId} {args : Array Value} {below : List Frame} {meth : Method} {c : Code} {Q : State → Prop} {H : Heap} {locs : List Loc} {ls : Array Slot} {n0 z0 : Nat} {a : Array Value} {st0 : List Value}
    (C : Cx G d M p R s m args meth c) (w : Wd G s H locs h) (hl : mm_l G (md_l M) ls lc) (g1 : n0 ≤ mm_N h) (g2 : z0 ≤ mm_S h) (g3 : mm_N h' - n0 ≤ R.cells) (g4 : mm_S h' - z0 ≤ R.slots)
    (kk : ∀ (H' : Heap) (locs' : List Loc) (ls' : Array Slot) (pc' : Nat), Wd G s H' locs' h' → RetAt M pc' v → W p (gg_l G) e R s m args below meth c H' locs' (mm_N h' - n0) (mm_S h' - z0) Q (F0 m pc' ls' (v.toList.map (cv G))))
    (m1 : mm_N h ≤ mm_N h1) (m2 : mm_S h ≤ mm_S h1) (hnx : pc + 3 = nx) (k : Ev G d M nx lc (v1.toList ++ rest) h1 v h')
    (hr : va_Run p (gg_l G) e R s m args below meth c H locs (mm_N h - n0) (mm_S h - z0) (mm_N h1 - mm_N h) (mm_S h1 - mm_S h) (F0 m pc ls st0) (rest.map (cv G)) (cc_Q G v1 h1 a) (fun q => gg_b G ≤ q)) :
    W p (gg_l G) e R s m args below meth c H locs (mm_N h - n0) (mm_S h - z0) Q (F0 m pc ls st0) := by
  intro T hT X
  obtain ⟨v0, s0, t, T', L, h0, X', hL, e1, e2, ⟨hv, hp, hz, hF⟩, stp⟩ := hr T hT X
  have hv0 : v0 = v1.map (cv G) := by injection hv
  subst hv0
  have hS1 : va_S (fun q => gg_b G ≤ q) s.heap T'.heap (locs ++ L) := by
    refine ⟨Nat.le_trans w.2.1.1 (by rw [e1, ← h0]; exact hF.1), fun q q1 q2 => ?_, fun q hq => ?_⟩
    · have q3 : q < H.size := Nat.lt_of_lt_of_le q1 w.2.1.1
      rw [e1, hF.2 q (by rw [h0]; exact q3) q2, h0]
      exact w.2.1.2.1 q q1 q2
    · rcases List.mem_append.mp hq with h9 | h9
      · exact w.2.1.2.2 q h9
      · exact hL q h9
  have K := k.2 p e R s m args below meth c Q T'.heap (locs ++ L) ls n0 z0 C ⟨by rw [e1]; exact hp, hS1, by rw [e1]; exact hz⟩ hl (Nat.le_trans g1 m1) (Nat.le_trans g2 m2) g3 g4 kk
  have c1 : mm_N h1 - n0 = mm_N h - n0 + (mm_N h1 - mm_N h) := by omega
  have c2 : mm_S h1 - z0 = mm_S h - z0 + (mm_S h1 - mm_S h) := by omega
  rw [c1, c2] at K
  obtain ⟨t2, a1, b1⟩ := K T' rfl X'
  refine ⟨t2, stp t2 ?_, b1⟩
  have es : (v1.map (cv G)).toList ++ rest.map (cv G) = (v1.toList ++ rest).map (cv G) := by cases v1 <;> rfl
  show Steps _ _ _ (T'.setTop { (F0 m pc ls st0) with pc := pc + 3, stack := (v1.map (cv G)).toList ++ rest.map (cv G) }) t2
  rw [es, hnx]
  exact a1
def CallOk (M N : MD) (np : Nat) : Prop := MOk N ∧ (parseMethodDescriptor (md_y N).desc).map (fun d => d.parameters.length) = some np
def LV (M : MD) (idx : Nat) (N : MD) (ci np : Nat) : Prop := CallOk M N np ∧ ci < 11 ∧ mm_C ci = (md_y N).cls ∧ Cond.methodLink (md_o M) idx (md_y N) ∈ gtb ∧ Cond.instanceMethod (md_y N) ∈ gtb ∧ Cond.selects (md_y N).cls (md_y N) (md_y N) ∈ gtb
def LS2 (M : MD) (idx : Nat) (N : MD) (np : Nat) : Prop := CallOk M N np ∧ Cond.static (md_y N) ∈ gtb ∧ (Cond.methodLink (md_o M) idx (md_y N) ∈ gtb ∨ ∃ host, Cond.methodLinkNest (md_o M) idx (md_y N) host ∈ lw_tbl)
def LI (M : MD) (idx : Nat) (N : MD) (np : Nat) : Prop := CallOk M N np ∧ md_r N = none ∧ (md_y N).name = "<init>" ∧ Cond.instanceMethod (md_y N) ∈ gtb ∧ (Cond.methodLink (md_o M) idx (md_y N) ∈ gtb ∨ ∃ host, Cond.methodLinkNest (md_o M) idx (md_y N) host ∈ lw_tbl)
theorem cc_room {R : Room} {hN : MOk N} (hd : d ≤ R.frames ∧ 40 * d ≤ R.locals) (h2 : d2 + 1 ≤ d) : (cc_R d2 h h1).frames + 1 ≤ R.frames ∧ 8 + (md_l N + 11) + (cc_R d2 h h1).locals ≤ R.locals := by
  have hml := hN.2.2.2.2.2.1
  refine ⟨Nat.le_trans h2 hd.1, ?_⟩
  have : (cc_R d2 h h1).locals = 40 * d2 := rfl
  omega
theorem ev_callV {idx ci np a : Nat} {st : List Value} (hd : IX (md_c M) pc (.invokevirtual idx) 3 nx) (L : LV M idx N ci np) (As : List Value) (hst : st = As.reverse ++ .ref a :: rest) (hnp : As.length = np) (hl2 : np + 1 ≤ md_l N) (ha : a < mm_N h) (hk : mm_K h a = ci) (hrest : rest.length ≤ 8) (hdd : d2 + 1 ≤ d)
    (E : Ev G d2 N 0 (ent N (.ref a :: As)) [] h v1 h1) (k : Ev G d M nx lc (v1.toList ++ rest) h1 v h') : Ev G d M pc lc st h v h' := by
  refine ⟨⟨Nat.le_trans E.1.1 k.1.1, Nat.le_trans E.1.2 k.1.2⟩, fun p e R s m args below meth c Q H locs ls n0 z0 C w hl g1 g2 g3 g4 kk => ?_⟩
  obtain ⟨⟨hN, hnd⟩, hc, hcn, w1, w2, w3⟩ := L
  have m1 := E.1.1
  have m2 := E.1.2
  have m3 := k.1.1
  have m4 := k.1.2
  have hM := ev_met (vs := .ref a :: As) hN (by simp; omega) E
  have he : (mm_w (gg_t G) (gg_b G) h)[a]? = some (gg_b G + a, .inr (ci, mm_f (gg_b G) h a)) := by rw [mm_w_at ha, mm_e_obj hk hc]
  have cb : CallB R s args (md_o M) idx (md_y N) (md_c N) (md_l N) (md_r N) (md_ws N) (cc_R d2 h h1) (mm_N h1 - mm_N h) (mm_S h1 - mm_S h) np :=
    callB_of np C.2.2.2.2.1 (gt_in (md_good hN)) rfl rfl rfl (C.2.2.2.2.1 _ hN.2.2.1) (C.2.2.2.2.1 _ w1) ⟨hN.2.2.2.2.2.2.1.1, hN.2.2.2.2.2.2.1.2, hnd⟩ (cc_room (hN := hN) C.2.2.2.2.2.2.2.2.2.1 hdd)
  have hrecv := va_recv C.2.2.2.2.2.2.1 w.1 (mm_cl hc) he
  refine ev_after C w hl g1 g2 g3 g4 kk m1 m2 hd.2 k (va_runV (C := (md_y N).cls) (b := gg_b G + a) (As := As.map (cv G)) (rest := rest.map (cv G)) ⟨C.1, C.2.1, C.2.2.1, C.2.2.2.1, C.2.2.2.2.1⟩ hM ⟨cb, C.2.2.2.2.1 _ w2, C.2.2.2.2.1 _ w3⟩ ⟨cc_blind, by rw [← hcn]; exact hrecv, fun U hU hW => ⟨rfl, by rw [hU]; exact w.2.2, by rw [hU]; exact w.1, va_K.moved hW.alike C.2.2.2.2.2.2.1, C.2.2.2.2.2.1.warm hW⟩⟩ rfl (by rw [List.length_map]; exact hnp) hl.1 ?_ (lv_room (by rw [cv_sum]; exact hrest)) hd.1 ⟨by omega, by omega⟩)
  rw [hst]
  simp [cv]
theorem ev_callS {idx np : Nat} {st : List Value} (hd : IX (md_c M) pc (.invokestatic idx) 3 nx) (L : LS2 M idx N np) (As : List Value) (hst : st = As.reverse ++ rest) (hnp : As.length = np) (hl2 : np ≤ md_l N) (hrest : rest.length ≤ 8) (hdd : d2 + 1 ≤ d)
    (E : Ev G d2 N 0 (ent N As) [] h v1 h1) (k : Ev G d M nx lc (v1.toList ++ rest) h1 v h') : Ev G d M pc lc st h v h' := by
  refine ⟨⟨Nat.le_trans E.1.1 k.1.1, Nat.le_trans E.1.2 k.1.2⟩, fun p e R s m args below meth c Q H locs ls n0 z0 C w hl g1 g2 g3 g4 kk => ?_⟩
  obtain ⟨⟨hN, hnd⟩, w2, w1⟩ := L
  have m1 := E.1.1
  have m2 := E.1.2
  have m3 := k.1.1
  have m4 := k.1.2
  have hM := ev_met (vs := As) hN (by omega) E
  have hpre : PreS s H (cc_P G As h) (As.map (cv G)) := ⟨cc_blind, fun U hU hW => ⟨rfl, by rw [hU]; exact w.2.2, by rw [hU]; exact w.1, va_K.moved hW.alike C.2.2.2.2.2.2.1, C.2.2.2.2.2.1.warm hW⟩⟩
  have hst2 : (st.map (cv G)) = (As.map (cv G)).reverse ++ rest.map (cv G) := by rw [hst]; simp
  rcases w1 with w1 | ⟨host, w1⟩
  · have cb : CallB R s args (md_o M) idx (md_y N) (md_c N) (md_l N) (md_r N) (md_ws N) (cc_R d2 h h1) (mm_N h1 - mm_N h) (mm_S h1 - mm_S h) np :=
      callB_of np C.2.2.2.2.1 (gt_in (md_good hN)) rfl rfl rfl (C.2.2.2.2.1 _ hN.2.2.1) (C.2.2.2.2.1 _ w1) ⟨hN.2.2.2.2.2.2.1.1, hN.2.2.2.2.2.2.1.2, hnd⟩ (cc_room (hN := hN) C.2.2.2.2.2.2.2.2.2.1 hdd)
    exact ev_after C w hl g1 g2 g3 g4 kk m1 m2 hd.2 k (va_runS (As := As.map (cv G)) (rest := rest.map (cv G)) ⟨C.1, C.2.1, C.2.2.1, C.2.2.2.1, C.2.2.2.2.1⟩ hM ⟨cb, C.2.2.2.2.1 _ w2⟩ hpre rfl (by rw [List.length_map]; exact hnp) hl.1 hst2 (lv_room (by rw [cv_sum]; exact hrest)) hd.1 ⟨by omega, by omega⟩)
  · have cb : va_CN R s args (md_o M) idx (md_y N) host (md_c N) (md_l N) (md_r N) (md_ws N) (cc_R d2 h h1) (mm_N h1 - mm_N h) (mm_S h1 - mm_S h) np :=
      va_cnB np C.2.2.2.2.1 (gt_in (md_good hN)) rfl rfl rfl (C.2.2.2.2.2.1 _ w1 rfl) (C.2.2.2.2.1 _ hN.2.2.1) ⟨hN.2.2.2.2.2.2.1.1, hN.2.2.2.2.2.2.1.2, hnd⟩ (cc_room (hN := hN) C.2.2.2.2.2.2.2.2.2.1 hdd)
    exact ev_after C w hl g1 g2 g3 g4 kk m1 m2 hd.2 k (va_runSN (As := As.map (cv G)) (rest := rest.map (cv G)) ⟨C.1, C.2.1, C.2.2.1, C.2.2.2.1, C.2.2.2.2.1⟩ hM ⟨cb, C.2.2.2.2.1 _ w2, trivial⟩ hpre rfl (by rw [List.length_map]; exact hnp) hl.1 hst2 (lv_room (by rw [cv_sum]; exact hrest)) hd.1 ⟨by omega, by omega⟩)
theorem ev_callI {idx np a : Nat} {st : List Value} (hd : IX (md_c M) pc (.invokespecial idx) 3 nx) (L : LI M idx N np) (As : List Value) (hst : st = As.reverse ++ .ref a :: rest) (hnp : As.length = np) (hl2 : np + 1 ≤ md_l N) (hrest : rest.length ≤ 8) (hdd : d2 + 1 ≤ d)
    (E : Ev G d2 N 0 (ent N (.ref a :: As)) [] h v1 h1) (k : Ev G d M nx lc (v1.toList ++ rest) h1 v h') : Ev G d M pc lc st h v h' := by
  refine ⟨⟨Nat.le_trans E.1.1 k.1.1, Nat.le_trans E.1.2 k.1.2⟩, fun p e R s m args below meth c Q H locs ls n0 z0 C w hl g1 g2 g3 g4 kk => ?_⟩
  obtain ⟨⟨hN, hnd⟩, hrn, hin, w2, w1⟩ := L
  have m1 := E.1.1
  have m2 := E.1.2
  have m3 := k.1.1
  have m4 := k.1.2
  have hM := ev_met (vs := .ref a :: As) hN (by simp; omega) E
  have hpre : PreS s H (cc_P G (.ref a :: As) h) (.ref (gg_b G + a) :: As.map (cv G)) := ⟨cc_blind, fun U hU hW => ⟨rfl, by rw [hU]; exact w.2.2, by rw [hU]; exact w.1, va_K.moved hW.alike C.2.2.2.2.2.2.1, C.2.2.2.2.2.1.warm hW⟩⟩
  have hst2 : (st.map (cv G)) = (As.map (cv G)).reverse ++ .ref (gg_b G + a) :: rest.map (cv G) := by rw [hst]; simp [cv]
  rcases w1 with w1 | ⟨host, w1⟩
  · have cb : CallB R s args (md_o M) idx (md_y N) (md_c N) (md_l N) (md_r N) (md_ws N) (cc_R d2 h h1) (mm_N h1 - mm_N h) (mm_S h1 - mm_S h) np :=
      callB_of np C.2.2.2.2.1 (gt_in (md_good hN)) rfl rfl rfl (C.2.2.2.2.1 _ hN.2.2.1) (C.2.2.2.2.1 _ w1) ⟨hN.2.2.2.2.2.2.1.1, hN.2.2.2.2.2.2.1.2, hnd⟩ (cc_room (hN := hN) C.2.2.2.2.2.2.2.2.2.1 hdd)
    rw [hrn] at cb
    exact ev_after C w hl g1 g2 g3 g4 kk m1 m2 hd.2 k (va_runI (b := gg_b G + a) (As := As.map (cv G)) (rest := rest.map (cv G)) ⟨C.1, C.2.1, C.2.2.1, C.2.2.2.1, C.2.2.2.2.1⟩ hM ⟨cb, hin, C.2.2.2.2.1 _ w2⟩ hpre rfl (by rw [List.length_map]; exact hnp) hl.1 hst2 (lv_room (by rw [cv_sum]; exact hrest)) hd.1 ⟨by omega, by omega⟩)
  · have cb : va_CN R s args (md_o M) idx (md_y N) host (md_c N) (md_l N) (md_r N) (md_ws N) (cc_R d2 h h1) (mm_N h1 - mm_N h) (mm_S h1 - mm_S h) np :=
      va_cnB np C.2.2.2.2.1 (gt_in (md_good hN)) rfl rfl rfl (C.2.2.2.2.2.1 _ w1 rfl) (C.2.2.2.2.1 _ hN.2.2.1) ⟨hN.2.2.2.2.2.2.1.1, hN.2.2.2.2.2.2.1.2, hnd⟩ (cc_room (hN := hN) C.2.2.2.2.2.2.2.2.2.1 hdd)
    rw [hrn] at cb
    exact ev_after C w hl g1 g2 g3 g4 kk m1 m2 hd.2 k (va_runIN (b := gg_b G + a) (As := As.map (cv G)) (rest := rest.map (cv G)) ⟨C.1, C.2.1, C.2.2.1, C.2.2.2.1, C.2.2.2.2.1⟩ hM ⟨cb, hin, C.2.2.2.2.1 _ w2⟩ hpre rfl (by rw [List.length_map]; exact hnp) hl.1 hst2 (lv_room (by rw [cv_sum]; exact hrest)) hd.1 ⟨by omega, by omega⟩)
/-- Object's own constructor -/
theorem ev_objI {idx a : Nat} (hd : IX (md_c M) pc (.invokespecial idx) 3 nx) (w1 : Cond.methodLink (md_o M) idx objectInit ∈ gtb) (w2 : Cond.instanceMethod objectInit ∈ gtb) (w3 : Cond.code objectInit ⟨#[0xb1]⟩ 1 none ∈ gtb) (hrest : rest.length ≤ 8) (hdd : 1 ≤ d) (k : Ev G d M nx lc rest h v h') : Ev G d M pc lc (.ref a :: rest) h v h' := by
  refine ⟨k.1, fun p e R s m args below meth c Q H locs ls n0 z0 C w hl g1 g2 g3 g4 kk => ?_⟩
  have K := k.2 p e R s m args below meth c Q H locs ls n0 z0 C w hl g1 g2 g3 g4 kk
  rw [← hd.2] at K
  have hR := C.2.2.2.2.2.2.2.2.2.1
  refine W.objInit C.1 C.2.1 C.2.2.2.1 (C.2.2.2.2.1 _ w1) (C.2.2.2.2.1 _ w2) (C.2.2.2.2.1 _ w3) rfl (by rw [C.2.2.1]; exact hl.1) rfl hd.1 (by omega) ?_ K
  have := lv_room (m := m) (pc := pc) (ls := ls) (rest := (.ref a :: rest).map (cv G)) (st := rest.map (cv G)) (by rw [cv_sum]; exact hrest)
  omega
end

/-! ===== the claim out of the law's function ===== -/
theorem NW_of {s : State} {args : Array Value} (hts : ∀ w ∈ lw_tbl, w.before args s = true) : NW s := by
  intro w hw hn
  have h1 := hts w hw
  cases w with
  | fieldLinkNest a i b n d x => exact va_Nw.of rfl h1
  | methodLinkNest a i y x => exact va_Nw.of rfl h1
  | arrayOver t =>
    cases t with
    | object C => exact va_AO.of h1
    | _ => simp [mm_nest] at hn
  | _ => simp [mm_nest] at hn
theorem arr_prim {s : State} {args : Array Value} {ty : FieldType} (hp : ty = .int ∨ ty = .boolean) (h : (Cond.arrayClass ty).before args s = true) : ∃ cA : ClassId, ArrOfT s cA ty ∧ va_RA s cA ty := by
  obtain ⟨cA, kA, comp, h1, h2, h3⟩ := Cond.arrayClass_spec h
  refine ⟨cA, fun n z => ⟨fun k h => (by cases h), kA, h2, comp, h3⟩, ?_⟩
  rcases hp with rfl | rfl <;> exact h1
theorem arr_ref {s : State} {args : Array Value} {C : String} (h : (Cond.arrayOver (.object C)).before args s = true) : ∃ cA : ClassId, ArrOfT s cA (.object C) ∧ va_RA s cA (.object C) := by
  obtain ⟨comp, cA, kA, h1, -, h2, h3, h4⟩ := Cond.arrayOver_spec h
  exact ⟨cA, fun n z => ⟨fun k h => (by cases h), kA, h2, comp, h3⟩, kA, comp, h2, h3, h1, h4⟩
theorem kn_of {s : State} {args : Array Value} (hts : ∀ w ∈ lw_tbl, w.before args s = true) {ci : Nat} (hc : ci < 11) (hi : Cond.instantiable (mm_C ci) (mm_nf ci) ∈ gtb) : ∃ (c : ClassId) (iS : Nat → Nat), u_Kn s (mm_C ci) (mm_T ci) (mm_nf ci) c iS :=
  u_known (ws := gtb) (fun w hw => hts w (List.mem_filter.mp hw).1) (mm_ws hc) (hts _ (List.mem_filter.mp hi).1)
theorem kn_0 : Cond.instantiable (mm_C 0) (mm_nf 0) ∈ gtb := gt_mem (tb 131 (by decide +kernel)) rfl
theorem kn_1 : Cond.instantiable (mm_C 1) (mm_nf 1) ∈ gtb := gt_mem (tb 65 (by decide +kernel)) rfl
theorem kn_2 : Cond.instantiable (mm_C 2) (mm_nf 2) ∈ gtb := gt_mem (tb 254 (by decide +kernel)) rfl
theorem kn_3 : Cond.instantiable (mm_C 3) (mm_nf 3) ∈ gtb := gt_mem (tb 215 (by decide +kernel)) rfl
theorem kn_4 : Cond.instantiable (mm_C 4) (mm_nf 4) ∈ gtb := gt_mem (tb 228 (by decide +kernel)) rfl
theorem kn_5 : Cond.instantiable (mm_C 5) (mm_nf 5) ∈ gtb := gt_mem (tb 75 (by decide +kernel)) rfl
theorem kn_6 : Cond.instantiable (mm_C 6) (mm_nf 6) ∈ gtb := gt_mem (tb 247 (by decide +kernel)) rfl
theorem kn_7 : Cond.instantiable (mm_C 7) (mm_nf 7) ∈ gtb := gt_mem (tb 158 (by decide +kernel)) rfl
theorem kn_8 : Cond.instantiable (mm_C 8) (mm_nf 8) ∈ gtb := gt_mem (tb 139 (by decide +kernel)) rfl
theorem kn_9 : Cond.instantiable (mm_C 9) (mm_nf 9) ∈ gtb := gt_mem (tb 57 (by decide +kernel)) rfl
theorem kn_10 : Cond.instantiable (mm_C 10) (mm_nf 10) ∈ gtb := gt_mem (tb 892 (by decide +kernel)) rfl
-- ===== end of PART A; then your names; then what follows =====
/-! THE CLAIM OUT OF ONE WALK OF THE LAW'S BODY. Your part is whole_start (and what it stands on); all else here is the same for every law, but numbers. -/
def R_law : String := "RuleChangeDeskLaw"
def lw_P (b : Addr) (xs : List Int32) (args : Array Value) (s : State) : Prop := args = #[.ref b] ∧ s.IntsAt b xs ∧ xs.length ≤ 3584 ∧ (Jvm.Cond.and given_1 narrow_1).before args s = true
def lw_Q (_ : Array Value) (s : State) (o : Outcome) (t : State) : Prop := o = .returned (some (.int 1)) ∧ Framed s o t [] 600000 7302250
def lw_Z (below : List Frame) (a : Array Value) (s : State) : State → Prop := fun t => ∃ o, t.status = .running ∧ Ended t below o ∧ lw_Q a s o t
/-- the law's own end, with 1 on the stack, nothing written that was there before, its room as the claim has it -/
theorem lw_ret {p : Program} {l : Launch} {e : Env} {s : State} {m : MethodId} {below : List Frame} {meth : Method} {c : Code} {b : Nat} (hx : p.tables.exec = Jvm.exec) (hb : c.code = code) (hr : meth.sig.returnType = ret) (hlocks : meth.locks = false) {pc : Nat} {H : Heap} {ls : Array Slot} (hdg : decode code pc = .ok (.ireturn, 1)) : W p l e room_1 s m #[Value.ref b] below meth c H [] 600000 7302250 (lw_Z below #[Value.ref b] s) (F0 m pc ls [.int 1]) := by
  intro T hT X
  obtain ⟨fs, hret, hrun, hended, hW, hframe⟩ := X.leave (v := some (.int 1)) (hlocks := hlocks) (fun h => by rw [hr] at h; cases h)
  have hmeth' : T.vm.method? m = some meth := X.method'
  refine ⟨T.setFrames fs, ?_, .returned (some (.int 1)), hrun, hended, rfl, ⟨_, rfl⟩, hW, hframe⟩
  jvm_step X.here [X.here.top, hx, hb, hdg, hmeth', hr, ret, narrow_b1]
  (try refine ⟨rfl, ?_⟩); (try refine ⟨rfl, ?_⟩)
  first | (intro acts; rw [hret _ acts rfl rfl rfl]) | rw [hret _ _ rfl rfl rfl]
  exact Steps.refl _
/-- what holds at the law's entry: the machine, the code, the tables' words (any of lw_tbl by 'hts w (by decide +kernel)'), the script of L ints xs at the cell b, what the Statement gives of the start (any of its parts by flat_of_before) -/
def lw_At (p : Program) (s : State) (m : MethodId) (meth : Method) (c : Code) (b L : Nat) (xs : Nat → Int32) : Prop :=
  p.tables.exec = Jvm.exec ∧ c.code = code ∧ meth.sig.returnType = ret ∧ c.maxLocals = 4 ∧ s.vm.findClass R_law = some m.cls ∧ (∀ w ∈ lw_tbl, w.before #[Value.ref b] s = true) ∧ va_X b L xs s s.heap ∧ b < s.heap.size ∧ meth.locks = false ∧ (Jvm.Cond.and given_1 narrow_1).before #[Value.ref b] s = true

set_option maxHeartbeats 4000000 in
set_option maxRecDepth 100000 in
theorem whole_start {p : Program} {e : Env} {s : State} {m : MethodId} {below : List Frame} {meth : Method} {c : Code} (l : Launch) {b L : Nat} {xs : Nat → Int32} (hL : L ≤ 3584) (C0 : lw_At p s m meth c b L xs) : W p l e room_1 s m #[Value.ref b] below meth c s.heap [] 0 0 (lw_Z below #[Value.ref b] s) (entryFrame m ([Value.ref b] : List Value).toArray 4) := by
  obtain ⟨hx, hb, hr, hml, hown, hts, hX, hbl, hlocks, hgv⟩ := id C0
  obtain ⟨h', hf, hn, hz⟩ := law_ok L xs hL
  obtain ⟨c0, i0, k0⟩ := kn_of hts (ci := 0) (by decide) kn_0
  obtain ⟨c1, i1, k1⟩ := kn_of hts (ci := 1) (by decide) kn_1
  obtain ⟨c2, i2, k2⟩ := kn_of hts (ci := 2) (by decide) kn_2
  obtain ⟨c3, i3, k3⟩ := kn_of hts (ci := 3) (by decide) kn_3
  obtain ⟨c4, i4, k4⟩ := kn_of hts (ci := 4) (by decide) kn_4
  obtain ⟨c5, i5, k5⟩ := kn_of hts (ci := 5) (by decide) kn_5
  obtain ⟨c6, i6, k6⟩ := kn_of hts (ci := 6) (by decide) kn_6
  obtain ⟨c7, i7, k7⟩ := kn_of hts (ci := 7) (by decide) kn_7
  obtain ⟨c8, i8, k8⟩ := kn_of hts (ci := 8) (by decide) kn_8
  obtain ⟨c9, i9, k9⟩ := kn_of hts (ci := 9) (by decide) kn_9
  obtain ⟨c10, i10, k10⟩ := kn_of hts (ci := 10) (by decide) kn_10
  obtain ⟨dC, dI, hKc⟩ : ∃ (dC : Nat → ClassId) (dI : Nat → Nat → Nat), ∀ (k : Nat) (q : vw_C), vwCl[k]? = some q → u_Kn s q.1 q.2.1 q.2.2 (dC k) (dI k) := by
    refine ⟨fun k => match k with | 0 => c0 | 1 => c1 | 2 => c2 | 3 => c3 | 4 => c4 | 5 => c5 | 6 => c6 | 7 => c7 | 8 => c8 | 9 => c9 | _ => c10, fun k => match k with | 0 => i0 | 1 => i1 | 2 => i2 | 3 => i3 | 4 => i4 | 5 => i5 | 6 => i6 | 7 => i7 | 8 => i8 | 9 => i9 | _ => i10, ?_⟩
    intro k q hq
    match k, hq with
    | 0, hq => cases hq; exact k0
    | 1, hq => cases hq; exact k1
    | 2, hq => cases hq; exact k2
    | 3, hq => cases hq; exact k3
    | 4, hq => cases hq; exact k4
    | 5, hq => cases hq; exact k5
    | 6, hq => cases hq; exact k6
    | 7, hq => cases hq; exact k7
    | 8, hq => cases hq; exact k8
    | 9, hq => cases hq; exact k9
    | 10, hq => cases hq; exact k10
    | k + 11, hq => simp [vwCl] at hq
  obtain ⟨t11, a11, b11⟩ := arr_prim (Or.inl rfl) (hts _ (List.mem_filter.mp ga_i).1)
  obtain ⟨t12, a12, b12⟩ := arr_prim (Or.inr rfl) (hts _ (List.mem_filter.mp ga_z).1)
  obtain ⟨t13, a13, b13⟩ := arr_ref (hts _ gao_X2)
  obtain ⟨t14, a14, b14⟩ := arr_ref (hts _ gao_X5)
  obtain ⟨t15, a15, b15⟩ := arr_ref (hts _ gao_X7)
  obtain ⟨tc, q11, q12, q13, q14, q15⟩ : ∃ tc : Nat → ClassId, tc 11 = t11 ∧ tc 12 = t12 ∧ tc 13 = t13 ∧ tc 14 = t14 ∧ tc 15 = t15 := ⟨fun k => if k = 11 then t11 else if k = 12 then t12 else if k = 13 then t13 else if k = 14 then t14 else t15, rfl, rfl, rfl, rfl, rfl⟩
  subst q11; subst q12; subst q13; subst q14; subst q15
  have hK : va_K (dC, dI) vwCl (gg_tys (l, (dC, dI), tc, s.heap.size, b, L, xs)) s := by
    refine ⟨hKc, fun k q hq => ?_⟩
    match k, hq with
    | 0, hq => cases hq; exact ⟨a11, b11⟩
    | 1, hq => cases hq; exact ⟨a12, b12⟩
    | 2, hq => cases hq; exact ⟨a13, b13⟩
    | 3, hq => cases hq; exact ⟨a14, b14⟩
    | 4, hq => cases hq; exact ⟨a15, b15⟩
    | k + 5, hq => simp [gg_tys] at hq
  have E := e_L_law (G := (l, (dC, dI), tc, s.heap.size, b, L, xs)) hf
  have C : Cx (l, (dC, dI), tc, s.heap.size, b, L, xs) 13 M_L_law p room_1 s m #[Value.ref b] meth c := ⟨hx, hb, hml, hown, fun w hw => hts w (List.mem_filter.mp hw).1, NW_of hts, hK, Nat.le_refl _, fun hi => (by cases hi), ⟨by decide, by decide⟩, fun _ => ⟨hX, hbl⟩⟩
  have w0 : Wd (l, (dC, dI), tc, s.heap.size, b, L, xs) s s.heap [] mh0 := ⟨fun k q hq => by simp [mm_w, mh0, mm_N] at hq, va_S.rf, rfl⟩
  have K := E.2 p e room_1 s m #[Value.ref b] below meth c (lw_Z below #[Value.ref b] s) s.heap [] _ 0 0 C w0 (mm_l_ent (by decide)) (Nat.zero_le _) (Nat.zero_le _) hn hz ?_
  · rw [lg_entry_eq]
    exact K
  · intro H' locs' ls' pc' w' hret
    have hd : decode code pc' = .ok (.ireturn, 1) := by
      rcases hret with ⟨h1, -⟩ | ⟨x, ty, h1, h2, -⟩ | ⟨u, nm, h1, h2, -⟩
      · cases h1
      · exact h2
      · cases h1; rcases h2 with h2 | ⟨a, h2⟩ <;> cases h2
    refine va_forget (fun q hq => w'.2.1.2.2 q hq) ?_
    refine W.widen (k := 600000) (n := 7302250) hn hz ?_
    exact lw_ret hx hb hr hlocks hd
-- ===== YOUR PART ENDS =====
set_option maxHeartbeats 4000000 in
theorem lw_walk (l : Launch) (b : Addr) (xs : List Int32) : MetFree l x (headSpec (Jvm.Cond.code x code maxLocals ret :: tables_1) room_1) (lw_P b xs) (fun _ _ _ _ _ => True) lw_Q := by
  refine MetFree.of_bodyS (code := code) (maxLocals := maxLocals) (ret := ret) (by decide) ?_ ?_
  · intro args s m h hn
    obtain ⟨meth, c, h1, h2, h3, h4, h5, h6, -, -⟩ := Cond.code_spec hn (atoms_spec (ws := Jvm.Cond.code x code maxLocals ret :: tables_1) h _ List.mem_cons_self)
    exact ⟨meth, c, h1, h2, h3, h4, h5, h6⟩
  · intro p e s m args below meth c s₁ B hml0 hP _
    obtain ⟨rfl, hx, hbd, hgv⟩ := hP
    obtain ⟨scr, harrAt, hlist, hof, hsmall⟩ := hx
    obtain ⟨hcb, hkn, -, -⟩ := State.arrayAt?_spec harrAt
    have hown : s.vm.findClass R_law = some m.cls := findClass_of_methodNamed B.named
    have hts0 : ∀ c ∈ (Jvm.Cond.code x code maxLocals ret :: tables_1), c.before #[Value.ref b] s = true := atoms_spec (ws := Jvm.Cond.code x code maxLocals ret :: tables_1) B.pre
    have hts : ∀ w ∈ lw_tbl, w.before #[Value.ref b] s = true := k2_hts_sels lw_privs (fun w hw => hts0 w (List.mem_cons_of_mem _ hw)) lw_privs_ok
    have hml : c.maxLocals = 4 := B.maxLocals_eq (hts0 _ List.mem_cons_self)
    have X₀ : Stand p l e room_1 s m #[Value.ref b] below meth c s₁ [] 0 0 := Stand.of_body B
    have hh0 : s₁.heap = s.heap := by rw [B.state]; rfl
    have hsz : scr.slots.size = xs.length := by rw [← Array.length_toList, hlist, List.length_map]
    have hval : ∀ j : Nat, j < xs.length → scr.slots[j]? = some (.int (xs.getD j 0)) := fun j hj => by
      rw [← Array.getElem?_toList, hlist]
      simp [hj]
    have hbl : b < s.heap.size := (Array.getElem?_eq_some_iff.mp hcb).1
    have hX : va_X b xs.length (fun j => xs.getD j 0) s s.heap := ⟨scr, hcb, hof, hkn, hsz, hval⟩
    have K : W p l e room_1 s m #[Value.ref b] below meth c s₁.heap [] 0 0 (lw_Z below #[Value.ref b] s) (entryFrame m ([Value.ref b] : List Value).toArray 4) := by
      rw [hh0]
      exact whole_start l hbd ⟨B.exec, B.bytes, B.returns, hml, hown, hts, hX, hbl, B.notSynchronized, hgv⟩
    obtain ⟨t, a1, o, b1, b2, b3⟩ := K s₁ rfl X₀
    exact ⟨t, o, a1, b1, b2, b3⟩
theorem lw_pre_spec {args : Array Value} {s : State} (h : (Jvm.Cond.and given_1 narrow_1).before args s = true) (hr : rest_1_c.before args s = true) : ∃ (b : Addr) (xs : List Int32), lw_P b xs args s := by
  have hs := flat_of_before _ h
  have hq := flat_of_before _ hr
  have hc : (Cond.count 1).before args s = true := hs _ (by decide +kernel)
  have harr : (Cond.arrayOf (.arg 0) .int).before args s = true := hs _ (by decide +kernel)
  have hle : (Cond.le (.length (.arg 0)) (.int 3584)).before args s = true := hs _ (by decide +kernel)
  have hlen : (Cond.isInt (.length (.arg 0))).before args s = true := hq _ (by decide +kernel)
  have hall : (Cond.all (.arg 0) (.isInt (.elem (.arg 0) (.index 0)))).before args s = true := hq _ (by decide +kernel)
  obtain ⟨b, xs, hb, hx⟩ := State.ints_of_pre rfl harr hlen hall
  have hsm : xs.length < 2 ^ 31 := hx.choose_spec.2.2.2
  have hev : (Term.length (.arg 0)).eval args s none [] s = some (.int xs.length.toInt32) := hx.length_eval hb
  have hv := Cond.le_ints hev (show (Term.int 3584).eval args s none [] s = some (.int 3584) from rfl)
  have hd : xs.length.toInt32 ≤ 3584 := by
    simpa [Cond.before, Cond.holds, hv] using hle
  have hN : xs.length ≤ 3584 := (Int32.ofNat_le_ofNat hsm (by decide)).mp (show Int32.ofNat xs.length ≤ Int32.ofNat 3584 from hd)
  exact ⟨b, xs, Cond.one_arg hc (show args[0]? = some (.ref b) from hb), hx, hN, h⟩
theorem lw_comes (l : Launch) : Comes l x (Jvm.Cond.code x code maxLocals ret :: tables_1) room_1 (fun tb e args s => Calls_1 tb e args s ∧ rest_1 tb e args s ∧ Pre_1 tb e args s)
    (fun _ _ args s o t => lw_Q args s o t) := by
  intro p e ha hc hk s m args below hf hfit hheap happ hpre
  obtain ⟨b, xs, hP⟩ := lw_pre_spec hpre.2.2 hpre.2.1
  obtain ⟨k, o, h1, h2, h3, hQ⟩ := lw_walk l b xs p e ha hc hk s m args below hf ((Spec.applies_iff_loose hf).mp happ).1 hP trivial
  exact ⟨k, o, h1, h2, h3, hQ⟩
theorem lw_frame {s t : State} {o : Outcome} {args : Array Value} (h : Framed s o t [] 600000 7302250) :
    Framed s o t (fieldLocs frame_1_writes args s ++ arrayLocs frame_1_arrays args s ++ staticLocs frame_1_statics s) 600000 7302250 := h
theorem lw_limb (L : Cond) (hL : ∀ (args : Array Value) (s t : State), L.after args s (.returned (some (.int 1))) t = true) :
    ArmFor flags0 classFile x code maxLocals ret World_1 tables_1 room_1 Calls_1 rest_1 Pre_1
      (fun tb e a s o t => postC L tb e a s o t ∧ Framed s o t (fieldLocs frame_1_writes a s ++ arrayLocs frame_1_arrays a s ++ staticLocs frame_1_statics s) 600000 7302250) := by
  intro l _ _ _ p e ha hc hk s m args below hf hfit hheap happ hpre
  obtain ⟨k, o, h1, h2, h3, rfl, hF⟩ := lw_comes l p e ha hc hk s m args below hf hfit hheap happ hpre
  exact ⟨k, _, h1, h2, h3, hL args s _, lw_frame hF⟩
theorem i_vc : Claimed_1_1 ∧ Claimed_1_2 := ⟨lw_limb limb_1_1 (fun args s t => by simp [limb_1_1, Cond.after, Cond.holds, Cond.value]), lw_limb limb_1_2 (fun args s t => Cond.after_iff.mpr (by
  first | (rw [show limb_1_2 = Cond.eq .result (.int 1) from rfl, Cond.eq_ints (x := 1) (y := 1) rfl rfl]; simp; done) | (simp [limb_1_2, Cond.value, Term.eval]; done)))⟩

/-! ===== the judgement: a method's frame, at pc with these locals and this stack over this small heap, returns v with that small heap ===== -/
def mm_nest : Cond → Bool | .fieldLinkNest _ _ _ _ _ _ => true | .methodLinkNest _ _ _ _ => true | .arrayOver (.object _) => true | _ => false
def NW (s : State) : Prop := ∀ w ∈ lw_tbl, mm_nest w = true → va_Nw w s
theorem NW.warm {s U : State} (hW : s.WarmedH U.vm) (h : NW s) : NW U := by
  intro w hw hn
  have h1 := h w hw hn
  cases w with
  | fieldLinkNest a i b n d x => exact va_Nw.warmF hW h1
  | methodLinkNest a i y x => exact va_Nw.warmM hW h1
  | arrayOver t =>
    cases t with
    | object C => exact va_AO.moved hW.alike h1
    | _ => simp [mm_nest] at hn
  | _ => simp [mm_nest] at hn
theorem NW.calling {U : State} {g : JFrame} {mk : MethodId} {a : Array Value} (h : NW U) : NW (U.calling g mk a) := by
  intro w hw hn
  have h1 := h w hw hn
  cases w with
  | fieldLinkNest a i b n d x => exact va_Nw.same (u := U) rfl rfl h1
  | methodLinkNest a i y x => exact va_Nw.same (u := U) rfl rfl h1
  | arrayOver t =>
    cases t with
    | object C => exact va_AO.moved (u := U) (Vm.Alike.refl U.vm) h1
    | _ => simp [mm_nest] at hn
  | _ => simp [mm_nest] at hn
abbrev GG : Type := Launch × va_G × (Nat → ClassId) × Nat × Nat × Nat × (Nat → Int32)
def gg_l (G : GG) : Launch := G.1
def gg_D (G : GG) : va_G := G.2.1
def gg_t (G : GG) : Nat → ClassId := G.2.2.1
def gg_b (G : GG) : Nat := G.2.2.2.1
def gg_s (G : GG) : Nat := G.2.2.2.2.1
def gg_L (G : GG) : Nat := G.2.2.2.2.2.1
def gg_x (G : GG) : Nat → Int32 := G.2.2.2.2.2.2
def cv (G : GG) : Value → Value
  | .int x => .int x
  | .ref k => .ref (gg_b G + k)
  | .long _ => .ref (gg_s G)
  | _ => .null
theorem cv_cat (G : GG) (v : Value) : (cv G v).category = 1 := by cases v <;> rfl
def gg_tys (G : GG) : List (ClassId × FieldType) := [(gg_t G 11, .int), (gg_t G 12, .boolean), (gg_t G 13, .object RX2), (gg_t G 14, .object RX5), (gg_t G 15, .object RX7)]
abbrev MD : Type := MethodName × ByteArray × Nat × Option FieldType × String × Bool
def md_y (M : MD) : MethodName := M.1
def md_c (M : MD) : ByteArray := M.2.1
def md_l (M : MD) : Nat := M.2.2.1
def md_r (M : MD) : Option FieldType := M.2.2.2.1
def md_o (M : MD) : String := M.2.2.2.2.1
def md_i (M : MD) : Bool := M.2.2.2.2.2
def IX (cc : ByteArray) (pc : Nat) (op : Instr) (len nx : Nat) : Prop := decode cc pc = .ok (op, len) ∧ pc + len = nx
def mm_l (G : GG) (nL : Nat) (ls : Array Slot) (lc : List (Option Value)) : Prop := ls.size = nL ∧ lv_wf ls ∧ lc.length = nL ∧ ∀ (i : Nat) (v : Value), lc[i]? = some (some v) → ls[i]? = some (.val (cv G v))
def Cx (G : GG) (d : Nat) (M : MD) (p : Program) (R : Room) (s : State) (m : MethodId) (args : Array Value) (meth : Method) (c : Code) : Prop :=
  p.tables.exec = Jvm.exec ∧ c.code = md_c M ∧ c.maxLocals = md_l M ∧ s.vm.findClass (md_o M) = some m.cls ∧ (∀ w ∈ gtb, w.before args s = true) ∧ NW s ∧ va_K (gg_D G) vwCl (gg_tys G) s ∧ gg_b G ≤ s.heap.size ∧ (md_i M = true → meth.name = "<init>") ∧ (d ≤ R.frames ∧ 40 * d ≤ R.locals) ∧ (md_o M = RL → va_X (gg_s G) (gg_L G) (gg_x G) s s.heap ∧ gg_s G < gg_b G)
def Wd (G : GG) (s : State) (H : Heap) (locs : List Loc) (h : MH) : Prop := va_P (gg_D G) vwCl (mm_w (gg_t G) (gg_b G) h) H ∧ va_S (fun q => gg_b G ≤ q) s.heap H locs ∧ H.size = gg_b G + mm_N h
def RetAt (M : MD) (pc : Nat) (v : Option Value) : Prop :=
  (v = none ∧ decode (md_c M) pc = .ok (.return_, 1) ∧ md_r M = none) ∨
  (∃ (x : Int32) (ty : FieldType), v = some (.int x) ∧ decode (md_c M) pc = .ok (.ireturn, 1) ∧ md_r M = some ty ∧ narrow ty (.int x) = .int x) ∨
  (∃ (u : Value) (n : String), v = some u ∧ (u = .null ∨ ∃ a, u = .ref a) ∧ decode (md_c M) pc = .ok (.areturn, 1) ∧ md_r M = some (.object n))
def Ev (G : GG) (d : Nat) (M : MD) (pc : Nat) (lc : List (Option Value)) (st : List Value) (h : MH) (v : Option Value) (h' : MH) : Prop :=
  (mm_N h ≤ mm_N h' ∧ mm_S h ≤ mm_S h') ∧
  ∀ (p : Program) (e : Env) (R : Room) (s : State) (m : MethodId) (args : Array Value) (below : List Frame) (meth : Method) (c : Code) (Q : State → Prop) (H : Heap) (locs : List Loc) (ls : Array Slot) (n0 z0 : Nat),
    Cx G d M p R s m args meth c → Wd G s H locs h → mm_l G (md_l M) ls lc → n0 ≤ mm_N h → z0 ≤ mm_S h → mm_N h' - n0 ≤ R.cells → mm_S h' - z0 ≤ R.slots →
    (∀ (H' : Heap) (locs' : List Loc) (ls' : Array Slot) (pc' : Nat), Wd G s H' locs' h' → RetAt M pc' v → W p (gg_l G) e R s m args below meth c H' locs' (mm_N h' - n0) (mm_S h' - z0) Q (F0 m pc' ls' (v.toList.map (cv G)))) →
    W p (gg_l G) e R s m args below meth c H locs (mm_N h - n0) (mm_S h - z0) Q (F0 m pc ls (st.map (cv G)))
theorem mm_l_at {G : GG} {nL : Nat} {ls : Array Slot} {lc : List (Option Value)} (h : mm_l G nL ls lc) {i : Nat} {v : Value} (hv : lc[i]? = some (some v)) : ls[i]? = some (.val (cv G v)) := h.2.2.2 i v hv
def mm_pl (G : GG) (lc : List (Option Value)) : List (Nat × Value) := (List.range lc.length).filterMap (fun i => (lc.getD i none).map (fun v => (i, cv G v)))
theorem mm_pl_in {G : GG} {lc : List (Option Value)} {i : Nat} {v : Value} (hv : lc[i]? = some (some v)) : (i, cv G v) ∈ mm_pl G lc := by
  have hi : i < lc.length := (List.getElem?_eq_some_iff.mp hv).1
  refine List.mem_filterMap.mpr ⟨i, List.mem_range.mpr hi, ?_⟩
  simp [List.getD, hv]
theorem mm_pl_of {G : GG} {lc : List (Option Value)} {q : Nat × Value} (hq : q ∈ mm_pl G lc) : ∃ v, lc[q.1]? = some (some v) ∧ q.2 = cv G v := by
  obtain ⟨i, hi, h⟩ := List.mem_filterMap.mp hq
  have hi := List.mem_range.mp hi
  cases hx : lc[i]? with
  | none => simp [List.getD, hx] at h
  | some o =>
    cases o with
    | none => simp [List.getD, hx] at h
    | some v =>
      simp [List.getD, hx] at h
      subst h
      exact ⟨v, hx, rfl⟩
theorem mm_l_has {G : GG} {nL : Nat} {ls : Array Slot} {lc : List (Option Value)} (h : mm_l G nL ls lc) : lv_has ls nL (mm_pl G lc) :=
  ⟨h.1, h.2.1, fun q hq => by obtain ⟨v, h1, h2⟩ := mm_pl_of hq; rw [h2]; exact h.2.2.2 q.1 v h1⟩
theorem mm_l_set {G : GG} {nL : Nat} {ls ls' : Array Slot} {lc : List (Option Value)} {i : Nat} {v : Value} (h : mm_l G nL ls lc) (h' : lv_has ls' nL ((i, cv G v) :: (mm_pl G lc).filter (fun q => !(q.1 == i) && !(q.1 + 1 == i && q.2.category == 2)))) : mm_l G nL ls' (lc.set i (some v)) := by
  refine ⟨h'.1, h'.2.1, by rw [List.length_set]; exact h.2.2.1, fun j w hj => ?_⟩
  by_cases e : j = i
  · subst e
    have hl : j < lc.length := by
      have := (List.getElem?_eq_some_iff.mp hj).1
      rwa [List.length_set] at this
    rw [List.getElem?_set_self hl] at hj
    cases hj
    exact h'.2.2 (j, cv G v) List.mem_cons_self
  · rw [List.getElem?_set_ne (Ne.symm e)] at hj
    refine h'.2.2 (j, cv G w) (List.mem_cons_of_mem _ (List.mem_filter.mpr ⟨mm_pl_in hj, ?_⟩))
    have hc := cv_cat G w
    simp [e, hc]
section
variable {G : GG} {d : Nat} {M : MD} {pc nx : Nat} {lc : List (Option Value)} {st : List Value} {h : MH} {v : Option Value} {h' : MH}

theorem ev_iadd {x y : Int32} (hd : IX (md_c M) pc .iadd 1 nx) (k : Ev G d M nx lc (.int (x + y) :: st) h v h') : Ev G d M pc lc (.int y :: .int x :: st) h v h' :=
  ⟨k.1, fun p e R s m args below meth c Q H locs ls n0 z0 C w hl h1 h2 h3 h4 kk => by
    have K := k.2 p e R s m args below meth c Q H locs ls n0 z0 C w hl h1 h2 h3 h4 kk
    rw [← hd.2] at K
    exact lv_iadd C.1 C.2.1 hd.1 K⟩
theorem ev_isub {x y : Int32} (hd : IX (md_c M) pc .isub 1 nx) (k : Ev G d M nx lc (.int (x - y) :: st) h v h') : Ev G d M pc lc (.int y :: .int x :: st) h v h' :=
  ⟨k.1, fun p e R s m args below meth c Q H locs ls n0 z0 C w hl h1 h2 h3 h4 kk => by
    have K := k.2 p e R s m args below meth c Q H locs ls n0 z0 C w hl h1 h2 h3 h4 kk
    rw [← hd.2] at K
    exact lv_isub C.1 C.2.1 hd.1 K⟩
theorem ev_imul {x y : Int32} (hd : IX (md_c M) pc .imul 1 nx) (k : Ev G d M nx lc (.int (x * y) :: st) h v h') : Ev G d M pc lc (.int y :: .int x :: st) h v h' :=
  ⟨k.1, fun p e R s m args below meth c Q H locs ls n0 z0 C w hl h1 h2 h3 h4 kk => by
    have K := k.2 p e R s m args below meth c Q H locs ls n0 z0 C w hl h1 h2 h3 h4 kk
    rw [← hd.2] at K
    exact lv_imul C.1 C.2.1 hd.1 K⟩
theorem ev_iand {x y : Int32} (hd : IX (md_c M) pc .iand 1 nx) (k : Ev G d M nx lc (.int (x &&& y) :: st) h v h') : Ev G d M pc lc (.int y :: .int x :: st) h v h' :=
  ⟨k.1, fun p e R s m args below meth c Q H locs ls n0 z0 C w hl h1 h2 h3 h4 kk => by
    have K := k.2 p e R s m args below meth c Q H locs ls n0 z0 C w hl h1 h2 h3 h4 kk
    rw [← hd.2] at K
    exact lv_iand C.1 C.2.1 hd.1 K⟩
theorem ev_ior {x y : Int32} (hd : IX (md_c M) pc .ior 1 nx) (k : Ev G d M nx lc (.int (x ||| y) :: st) h v h') : Ev G d M pc lc (.int y :: .int x :: st) h v h' :=
  ⟨k.1, fun p e R s m args below meth c Q H locs ls n0 z0 C w hl h1 h2 h3 h4 kk => by
    have K := k.2 p e R s m args below meth c Q H locs ls n0 z0 C w hl h1 h2 h3 h4 kk
    rw [← hd.2] at K
    exact lv_ior C.1 C.2.1 hd.1 K⟩
theorem ev_ixor {x y : Int32} (hd : IX (md_c M) pc .ixor 1 nx) (k : Ev G d M nx lc (.int (x ^^^ y) :: st) h v h') : Ev G d M pc lc (.int y :: .int x :: st) h v h' :=
  ⟨k.1, fun p e R s m args below meth c Q H locs ls n0 z0 C w hl h1 h2 h3 h4 kk => by
    have K := k.2 p e R s m args below meth c Q H locs ls n0 z0 C w hl h1 h2 h3 h4 kk
    rw [← hd.2] at K
    exact lv_ixor C.1 C.2.1 hd.1 K⟩
theorem ev_ishl {x y : Int32} (hd : IX (md_c M) pc .ishl 1 nx) (k : Ev G d M nx lc (.int (x <<< (y &&& 31)) :: st) h v h') : Ev G d M pc lc (.int y :: .int x :: st) h v h' :=
  ⟨k.1, fun p e R s m args below meth c Q H locs ls n0 z0 C w hl h1 h2 h3 h4 kk => by
    have K := k.2 p e R s m args below meth c Q H locs ls n0 z0 C w hl h1 h2 h3 h4 kk
    rw [← hd.2] at K
    exact lv_ishl C.1 C.2.1 hd.1 K⟩
theorem ev_ishr {x y : Int32} (hd : IX (md_c M) pc .ishr 1 nx) (k : Ev G d M nx lc (.int (x >>> (y &&& 31)) :: st) h v h') : Ev G d M pc lc (.int y :: .int x :: st) h v h' :=
  ⟨k.1, fun p e R s m args below meth c Q H locs ls n0 z0 C w hl h1 h2 h3 h4 kk => by
    have K := k.2 p e R s m args below meth c Q H locs ls n0 z0 C w hl h1 h2 h3 h4 kk
    rw [← hd.2] at K
    exact lv_ishr C.1 C.2.1 hd.1 K⟩
theorem ev_iushr {x y : Int32} (hd : IX (md_c M) pc .iushr 1 nx) (k : Ev G d M nx lc (.int (x.toUInt32 >>> (y.toUInt32 &&& Int32.toUInt32 31)).toInt32 :: st) h v h') : Ev G d M pc lc (.int y :: .int x :: st) h v h' :=
  ⟨k.1, fun p e R s m args below meth c Q H locs ls n0 z0 C w hl h1 h2 h3 h4 kk => by
    have K := k.2 p e R s m args below meth c Q H locs ls n0 z0 C w hl h1 h2 h3 h4 kk
    rw [← hd.2] at K
    exact lv_iushr C.1 C.2.1 hd.1 rfl K⟩
theorem ev_idiv {x y : Int32} (hd : IX (md_c M) pc .idiv 1 nx) (hne : ¬ y = 0) (k : Ev G d M nx lc (.int (x / y) :: st) h v h') : Ev G d M pc lc (.int y :: .int x :: st) h v h' :=
  ⟨k.1, fun p e R s m args below meth c Q H locs ls n0 z0 C w hl h1 h2 h3 h4 kk => by
    have K := k.2 p e R s m args below meth c Q H locs ls n0 z0 C w hl h1 h2 h3 h4 kk
    rw [← hd.2] at K
    exact lv_idiv C.1 C.2.1 hd.1 hne K⟩
theorem ev_iconst {n : Int} {x : Int32} (hd : IX (md_c M) pc (.iconst n) 1 nx) (hv : Int32.ofInt n = x) (k : Ev G d M nx lc (.int x :: st) h v h') : Ev G d M pc lc st h v h' :=
  ⟨k.1, fun p e R s m args below meth c Q H locs ls n0 z0 C w hl h1 h2 h3 h4 kk => by
    have K := k.2 p e R s m args below meth c Q H locs ls n0 z0 C w hl h1 h2 h3 h4 kk
    rw [← hd.2] at K
    exact lv_iconst C.1 C.2.1 hd.1 hv K⟩
theorem ev_bipush {n : Int} {x : Int32} (hd : IX (md_c M) pc (.bipush n) 2 nx) (hv : (Int8.ofInt n).toInt32 = x) (k : Ev G d M nx lc (.int x :: st) h v h') : Ev G d M pc lc st h v h' :=
  ⟨k.1, fun p e R s m args below meth c Q H locs ls n0 z0 C w hl h1 h2 h3 h4 kk => by
    have K := k.2 p e R s m args below meth c Q H locs ls n0 z0 C w hl h1 h2 h3 h4 kk
    rw [← hd.2] at K
    exact lv_bipush C.1 C.2.1 hd.1 hv K⟩
theorem ev_sipush {n : Int} {x : Int32} (hd : IX (md_c M) pc (.sipush n) 3 nx) (hv : (Int16.ofInt n).toInt32 = x) (k : Ev G d M nx lc (.int x :: st) h v h') : Ev G d M pc lc st h v h' :=
  ⟨k.1, fun p e R s m args below meth c Q H locs ls n0 z0 C w hl h1 h2 h3 h4 kk => by
    have K := k.2 p e R s m args below meth c Q H locs ls n0 z0 C w hl h1 h2 h3 h4 kk
    rw [← hd.2] at K
    exact lv_sipush C.1 C.2.1 hd.1 hv K⟩
theorem ev_ldcw {i : Nat} {x : Int32} (hd : IX (md_c M) pc (.ldc_w i) 3 nx) (hw : Cond.constant (md_o M) i x ∈ gtb) (k : Ev G d M nx lc (.int x :: st) h v h') : Ev G d M pc lc st h v h' :=
  ⟨k.1, fun p e R s m args below meth c Q H locs ls n0 z0 C w hl h1 h2 h3 h4 kk => by
    have K := k.2 p e R s m args below meth c Q H locs ls n0 z0 C w hl h1 h2 h3 h4 kk
    rw [← hd.2] at K
    exact lv_ldcw C.1 C.2.1 C.2.2.2.1 (C.2.2.2.2.1 _ hw) hd.1 K⟩
theorem ev_null  (hd : IX (md_c M) pc .aconst_null 1 nx) (k : Ev G d M nx lc (.null :: st) h v h') : Ev G d M pc lc st h v h' :=
  ⟨k.1, fun p e R s m args below meth c Q H locs ls n0 z0 C w hl h1 h2 h3 h4 kk => by
    have K := k.2 p e R s m args below meth c Q H locs ls n0 z0 C w hl h1 h2 h3 h4 kk
    rw [← hd.2] at K
    exact lv_null C.1 C.2.1 hd.1 K⟩
theorem ev_iload_n {k0 : Fin 4} {x : Int32} (hd : IX (md_c M) pc (.iload_n k0) 1 nx) (hv : lc[(k0 : Nat)]? = some (some (.int x))) (k : Ev G d M nx lc (.int x :: st) h v h') : Ev G d M pc lc st h v h' :=
  ⟨k.1, fun p e R s m args below meth c Q H locs ls n0 z0 C w hl h1 h2 h3 h4 kk => by
    have K := k.2 p e R s m args below meth c Q H locs ls n0 z0 C w hl h1 h2 h3 h4 kk
    rw [← hd.2] at K
    exact lv_iload_n C.1 C.2.1 hd.1 rfl (mm_l_at hl hv) K⟩
theorem ev_iload {i : Nat} {x : Int32} (hd : IX (md_c M) pc (.iload i) 2 nx) (hv : lc[i]? = some (some (.int x))) (k : Ev G d M nx lc (.int x :: st) h v h') : Ev G d M pc lc st h v h' :=
  ⟨k.1, fun p e R s m args below meth c Q H locs ls n0 z0 C w hl h1 h2 h3 h4 kk => by
    have K := k.2 p e R s m args below meth c Q H locs ls n0 z0 C w hl h1 h2 h3 h4 kk
    rw [← hd.2] at K
    exact lv_iload C.1 C.2.1 hd.1 (mm_l_at hl hv) K⟩
theorem ev_aload_n {k0 : Fin 4} {a : Nat} (hd : IX (md_c M) pc (.aload_n k0) 1 nx) (hv : lc[(k0 : Nat)]? = some (some (.ref a))) (k : Ev G d M nx lc (.ref a :: st) h v h') : Ev G d M pc lc st h v h' :=
  ⟨k.1, fun p e R s m args below meth c Q H locs ls n0 z0 C w hl h1 h2 h3 h4 kk => by
    have K := k.2 p e R s m args below meth c Q H locs ls n0 z0 C w hl h1 h2 h3 h4 kk
    rw [← hd.2] at K
    exact lv_aload_n C.1 C.2.1 hd.1 rfl (mm_l_at hl hv) K⟩
theorem ev_aload {i a : Nat} (hd : IX (md_c M) pc (.aload i) 2 nx) (hv : lc[i]? = some (some (.ref a))) (k : Ev G d M nx lc (.ref a :: st) h v h') : Ev G d M pc lc st h v h' :=
  ⟨k.1, fun p e R s m args below meth c Q H locs ls n0 z0 C w hl h1 h2 h3 h4 kk => by
    have K := k.2 p e R s m args below meth c Q H locs ls n0 z0 C w hl h1 h2 h3 h4 kk
    rw [← hd.2] at K
    exact lv_aload C.1 C.2.1 hd.1 (mm_l_at hl hv) K⟩
theorem ev_aload_nN {k0 : Fin 4} (hd : IX (md_c M) pc (.aload_n k0) 1 nx) (hv : lc[(k0 : Nat)]? = some (some .null)) (k : Ev G d M nx lc (.null :: st) h v h') : Ev G d M pc lc st h v h' :=
  ⟨k.1, fun p e R s m args below meth c Q H locs ls n0 z0 C w hl h1 h2 h3 h4 kk => by
    have K := k.2 p e R s m args below meth c Q H locs ls n0 z0 C w hl h1 h2 h3 h4 kk
    rw [← hd.2] at K
    exact lv_aload_nN C.1 C.2.1 hd.1 rfl (mm_l_at hl hv) K⟩
theorem ev_aloadN {i : Nat} (hd : IX (md_c M) pc (.aload i) 2 nx) (hv : lc[i]? = some (some .null)) (k : Ev G d M nx lc (.null :: st) h v h') : Ev G d M pc lc st h v h' :=
  ⟨k.1, fun p e R s m args below meth c Q H locs ls n0 z0 C w hl h1 h2 h3 h4 kk => by
    have K := k.2 p e R s m args below meth c Q H locs ls n0 z0 C w hl h1 h2 h3 h4 kk
    rw [← hd.2] at K
    exact lv_aloadN C.1 C.2.1 hd.1 (mm_l_at hl hv) K⟩
theorem ev_aload_nS {k0 : Fin 4} {z : Int64} (hd : IX (md_c M) pc (.aload_n k0) 1 nx) (hv : lc[(k0 : Nat)]? = some (some (.long z))) (k : Ev G d M nx lc (.long z :: st) h v h') : Ev G d M pc lc st h v h' :=
  ⟨k.1, fun p e R s m args below meth c Q H locs ls n0 z0 C w hl h1 h2 h3 h4 kk => by
    have K := k.2 p e R s m args below meth c Q H locs ls n0 z0 C w hl h1 h2 h3 h4 kk
    rw [← hd.2] at K
    exact lv_aload_n C.1 C.2.1 hd.1 rfl (mm_l_at hl hv) K⟩
theorem ev_dup {x : Value} (hd : IX (md_c M) pc .dup 1 nx) (k : Ev G d M nx lc (x :: x :: st) h v h') : Ev G d M pc lc (x :: st) h v h' :=
  ⟨k.1, fun p e R s m args below meth c Q H locs ls n0 z0 C w hl h1 h2 h3 h4 kk => by
    have K := k.2 p e R s m args below meth c Q H locs ls n0 z0 C w hl h1 h2 h3 h4 kk
    rw [← hd.2] at K
    exact lv_dup C.1 C.2.1 hd.1 (cv_cat G x) K⟩
theorem ev_dup2 {x y : Value} (hd : IX (md_c M) pc .dup2 1 nx) (k : Ev G d M nx lc (x :: y :: x :: y :: st) h v h') : Ev G d M pc lc (x :: y :: st) h v h' :=
  ⟨k.1, fun p e R s m args below meth c Q H locs ls n0 z0 C w hl h1 h2 h3 h4 kk => by
    have K := k.2 p e R s m args below meth c Q H locs ls n0 z0 C w hl h1 h2 h3 h4 kk
    rw [← hd.2] at K
    exact lv_dup2_11 C.1 C.2.1 hd.1 (cv_cat G x) (cv_cat G y) K⟩
theorem ev_istore_n {k0 : Fin 4} {x : Int32} (hd : IX (md_c M) pc (.istore_n k0) 1 nx) (hi : (k0 : Nat) < md_l M) (k : Ev G d M nx (lc.set (k0 : Nat) (some (.int x))) st h v h') : Ev G d M pc lc ((.int x) :: st) h v h' :=
  ⟨k.1, fun p e R s m args below meth c Q H locs ls n0 z0 C w hl h1 h2 h3 h4 kk => by
    refine lv_istore_n (lv' := _) C.1 C.2.1 hd.1 rfl (mm_l_has hl) hi rfl (fun ls' hl' => ?_)
    have K := k.2 p e R s m args below meth c Q H locs ls' n0 z0 C w (mm_l_set hl hl') h1 h2 h3 h4 kk
    rw [← hd.2] at K
    exact K⟩
theorem ev_istore {i : Nat} {x : Int32} (hd : IX (md_c M) pc (.istore i) 2 nx) (hi : i < md_l M) (k : Ev G d M nx (lc.set i (some (.int x))) st h v h') : Ev G d M pc lc ((.int x) :: st) h v h' :=
  ⟨k.1, fun p e R s m args below meth c Q H locs ls n0 z0 C w hl h1 h2 h3 h4 kk => by
    refine lv_istore (lv' := _) C.1 C.2.1 hd.1 (mm_l_has hl) hi rfl (fun ls' hl' => ?_)
    have K := k.2 p e R s m args below meth c Q H locs ls' n0 z0 C w (mm_l_set hl hl') h1 h2 h3 h4 kk
    rw [← hd.2] at K
    exact K⟩
theorem ev_astore_n {k0 : Fin 4} {a : Nat} (hd : IX (md_c M) pc (.astore_n k0) 1 nx) (hi : (k0 : Nat) < md_l M) (k : Ev G d M nx (lc.set (k0 : Nat) (some (.ref a))) st h v h') : Ev G d M pc lc ((.ref a) :: st) h v h' :=
  ⟨k.1, fun p e R s m args below meth c Q H locs ls n0 z0 C w hl h1 h2 h3 h4 kk => by
    refine lv_astore_n (lv' := _) C.1 C.2.1 hd.1 rfl (mm_l_has hl) hi rfl (fun ls' hl' => ?_)
    have K := k.2 p e R s m args below meth c Q H locs ls' n0 z0 C w (mm_l_set hl hl') h1 h2 h3 h4 kk
    rw [← hd.2] at K
    exact K⟩
theorem ev_astore {i a : Nat} (hd : IX (md_c M) pc (.astore i) 2 nx) (hi : i < md_l M) (k : Ev G d M nx (lc.set i (some (.ref a))) st h v h') : Ev G d M pc lc ((.ref a) :: st) h v h' :=
  ⟨k.1, fun p e R s m args below meth c Q H locs ls n0 z0 C w hl h1 h2 h3 h4 kk => by
    refine lv_astore (lv' := _) C.1 C.2.1 hd.1 (mm_l_has hl) hi rfl (fun ls' hl' => ?_)
    have K := k.2 p e R s m args below meth c Q H locs ls' n0 z0 C w (mm_l_set hl hl') h1 h2 h3 h4 kk
    rw [← hd.2] at K
    exact K⟩
theorem ev_astore_nN {k0 : Fin 4} (hd : IX (md_c M) pc (.astore_n k0) 1 nx) (hi : (k0 : Nat) < md_l M) (k : Ev G d M nx (lc.set (k0 : Nat) (some .null)) st h v h') : Ev G d M pc lc (.null :: st) h v h' :=
  ⟨k.1, fun p e R s m args below meth c Q H locs ls n0 z0 C w hl h1 h2 h3 h4 kk => by
    refine lv_astore_nN (lv' := _) C.1 C.2.1 hd.1 rfl (mm_l_has hl) hi rfl (fun ls' hl' => ?_)
    have K := k.2 p e R s m args below meth c Q H locs ls' n0 z0 C w (mm_l_set hl hl') h1 h2 h3 h4 kk
    rw [← hd.2] at K
    exact K⟩
theorem ev_astoreN {i : Nat} (hd : IX (md_c M) pc (.astore i) 2 nx) (hi : i < md_l M) (k : Ev G d M nx (lc.set i (some .null)) st h v h') : Ev G d M pc lc (.null :: st) h v h' :=
  ⟨k.1, fun p e R s m args below meth c Q H locs ls n0 z0 C w hl h1 h2 h3 h4 kk => by
    refine lv_astoreN (lv' := _) C.1 C.2.1 hd.1 (mm_l_has hl) hi rfl (fun ls' hl' => ?_)
    have K := k.2 p e R s m args below meth c Q H locs ls' n0 z0 C w (mm_l_set hl hl') h1 h2 h3 h4 kk
    rw [← hd.2] at K
    exact K⟩
theorem ev_iinc {i : Nat} {n : Int} {x y : Int32} (hd : IX (md_c M) pc (.iinc i n) 3 nx) (hv : lc[i]? = some (some (.int x))) (hy : x + Int32.ofInt n = y) (hi : i < md_l M) (k : Ev G d M nx (lc.set i (some (.int y))) st h v h') : Ev G d M pc lc st h v h' :=
  ⟨k.1, fun p e R s m args below meth c Q H locs ls n0 z0 C w hl h1 h2 h3 h4 kk => by
    obtain ⟨kq, hkq⟩ := List.getElem?_of_mem (mm_pl_in (G := G) hv)
    refine lv_iinc (lv' := _) C.1 C.2.1 hd.1 (mm_l_has hl) hkq hy hi rfl (fun ls' hl' => ?_)
    have K := k.2 p e R s m args below meth c Q H locs ls' n0 z0 C w (mm_l_set (v := .int y) hl hl') h1 h2 h3 h4 kk
    rw [← hd.2] at K
    exact K⟩
theorem ev_goto {off : Int} {tg : Nat} (hd : IX (md_c M) pc (.goto off) 3 nx) (ht : (pc : Int) + off = (tg : Int)) (k : Ev G d M tg lc st h v h') : Ev G d M pc lc st h v h' :=
  ⟨k.1, fun p e R s m args below meth c Q H locs ls n0 z0 C w hl h1 h2 h3 h4 kk => lv_goto C.1 C.2.1 hd.1 ht (k.2 p e R s m args below meth c Q H locs ls n0 z0 C w hl h1 h2 h3 h4 kk)⟩
theorem ev_if_eq {x : Int32} {off : Int} {tg : Nat} (hd : IX (md_c M) pc (.ifCond .eq off) 3 nx) (ht : (pc : Int) + off = (tg : Int)) (kt : x = 0 → Ev G d M tg lc st h v h') (kf : ¬ x = 0 → Ev G d M nx lc st h v h') : Ev G d M pc lc (.int x :: st) h v h' :=
  ⟨(Decidable.em (x = 0)).elim (fun q => (kt q).1) (fun q => (kf (by first | exact q | (simpa using q))).1), fun p e R s m args below meth c Q H locs ls n0 z0 C w hl h1 h2 h3 h4 kk => by
    refine lv_if_eq C.1 C.2.1 hd.1 ht (fun q => (kt q).2 p e R s m args below meth c Q H locs ls n0 z0 C w hl h1 h2 h3 h4 kk) (fun q => ?_)
    have K := (kf q).2 p e R s m args below meth c Q H locs ls n0 z0 C w hl h1 h2 h3 h4 kk
    rw [← hd.2] at K
    exact K⟩
theorem ev_icmp_eq {x y : Int32} {off : Int} {tg : Nat} (hd : IX (md_c M) pc (.if_icmp .eq off) 3 nx) (ht : (pc : Int) + off = (tg : Int)) (kt : x = y → Ev G d M tg lc st h v h') (kf : ¬ x = y → Ev G d M nx lc st h v h') : Ev G d M pc lc (.int y :: .int x :: st) h v h' :=
  ⟨(Decidable.em (x = y)).elim (fun q => (kt q).1) (fun q => (kf (by first | exact q | (simpa using q))).1), fun p e R s m args below meth c Q H locs ls n0 z0 C w hl h1 h2 h3 h4 kk => by
    refine lv_icmp_eq C.1 C.2.1 hd.1 ht (fun q => (kt q).2 p e R s m args below meth c Q H locs ls n0 z0 C w hl h1 h2 h3 h4 kk) (fun q => ?_)
    have K := (kf q).2 p e R s m args below meth c Q H locs ls n0 z0 C w hl h1 h2 h3 h4 kk
    rw [← hd.2] at K
    exact K⟩
theorem ev_if_ne {x : Int32} {off : Int} {tg : Nat} (hd : IX (md_c M) pc (.ifCond .ne off) 3 nx) (ht : (pc : Int) + off = (tg : Int)) (kt : ¬ x = 0 → Ev G d M tg lc st h v h') (kf : x = 0 → Ev G d M nx lc st h v h') : Ev G d M pc lc (.int x :: st) h v h' :=
  ⟨(Decidable.em (¬ x = 0)).elim (fun q => (kt q).1) (fun q => (kf (by first | exact q | (simpa using q))).1), fun p e R s m args below meth c Q H locs ls n0 z0 C w hl h1 h2 h3 h4 kk => by
    refine lv_if_ne C.1 C.2.1 hd.1 ht (fun q => (kt q).2 p e R s m args below meth c Q H locs ls n0 z0 C w hl h1 h2 h3 h4 kk) (fun q => ?_)
    have K := (kf q).2 p e R s m args below meth c Q H locs ls n0 z0 C w hl h1 h2 h3 h4 kk
    rw [← hd.2] at K
    exact K⟩
theorem ev_icmp_ne {x y : Int32} {off : Int} {tg : Nat} (hd : IX (md_c M) pc (.if_icmp .ne off) 3 nx) (ht : (pc : Int) + off = (tg : Int)) (kt : ¬ x = y → Ev G d M tg lc st h v h') (kf : x = y → Ev G d M nx lc st h v h') : Ev G d M pc lc (.int y :: .int x :: st) h v h' :=
  ⟨(Decidable.em (¬ x = y)).elim (fun q => (kt q).1) (fun q => (kf (by first | exact q | (simpa using q))).1), fun p e R s m args below meth c Q H locs ls n0 z0 C w hl h1 h2 h3 h4 kk => by
    refine lv_icmp_ne C.1 C.2.1 hd.1 ht (fun q => (kt q).2 p e R s m args below meth c Q H locs ls n0 z0 C w hl h1 h2 h3 h4 kk) (fun q => ?_)
    have K := (kf q).2 p e R s m args below meth c Q H locs ls n0 z0 C w hl h1 h2 h3 h4 kk
    rw [← hd.2] at K
    exact K⟩
theorem ev_if_lt {x : Int32} {off : Int} {tg : Nat} (hd : IX (md_c M) pc (.ifCond .lt off) 3 nx) (ht : (pc : Int) + off = (tg : Int)) (kt : x < 0 → Ev G d M tg lc st h v h') (kf : ¬ x < 0 → Ev G d M nx lc st h v h') : Ev G d M pc lc (.int x :: st) h v h' :=
  ⟨(Decidable.em (x < 0)).elim (fun q => (kt q).1) (fun q => (kf (by first | exact q | (simpa using q))).1), fun p e R s m args below meth c Q H locs ls n0 z0 C w hl h1 h2 h3 h4 kk => by
    refine lv_if_lt C.1 C.2.1 hd.1 ht (fun q => (kt q).2 p e R s m args below meth c Q H locs ls n0 z0 C w hl h1 h2 h3 h4 kk) (fun q => ?_)
    have K := (kf q).2 p e R s m args below meth c Q H locs ls n0 z0 C w hl h1 h2 h3 h4 kk
    rw [← hd.2] at K
    exact K⟩
theorem ev_icmp_lt {x y : Int32} {off : Int} {tg : Nat} (hd : IX (md_c M) pc (.if_icmp .lt off) 3 nx) (ht : (pc : Int) + off = (tg : Int)) (kt : x < y → Ev G d M tg lc st h v h') (kf : ¬ x < y → Ev G d M nx lc st h v h') : Ev G d M pc lc (.int y :: .int x :: st) h v h' :=
  ⟨(Decidable.em (x < y)).elim (fun q => (kt q).1) (fun q => (kf (by first | exact q | (simpa using q))).1), fun p e R s m args below meth c Q H locs ls n0 z0 C w hl h1 h2 h3 h4 kk => by
    refine lv_icmp_lt C.1 C.2.1 hd.1 ht (fun q => (kt q).2 p e R s m args below meth c Q H locs ls n0 z0 C w hl h1 h2 h3 h4 kk) (fun q => ?_)
    have K := (kf q).2 p e R s m args below meth c Q H locs ls n0 z0 C w hl h1 h2 h3 h4 kk
    rw [← hd.2] at K
    exact K⟩
theorem ev_if_ge {x : Int32} {off : Int} {tg : Nat} (hd : IX (md_c M) pc (.ifCond .ge off) 3 nx) (ht : (pc : Int) + off = (tg : Int)) (kt : 0 ≤ x → Ev G d M tg lc st h v h') (kf : ¬ 0 ≤ x → Ev G d M nx lc st h v h') : Ev G d M pc lc (.int x :: st) h v h' :=
  ⟨(Decidable.em (0 ≤ x)).elim (fun q => (kt q).1) (fun q => (kf (by first | exact q | (simpa using q))).1), fun p e R s m args below meth c Q H locs ls n0 z0 C w hl h1 h2 h3 h4 kk => by
    refine lv_if_ge C.1 C.2.1 hd.1 ht (fun q => (kt q).2 p e R s m args below meth c Q H locs ls n0 z0 C w hl h1 h2 h3 h4 kk) (fun q => ?_)
    have K := (kf q).2 p e R s m args below meth c Q H locs ls n0 z0 C w hl h1 h2 h3 h4 kk
    rw [← hd.2] at K
    exact K⟩
theorem ev_icmp_ge {x y : Int32} {off : Int} {tg : Nat} (hd : IX (md_c M) pc (.if_icmp .ge off) 3 nx) (ht : (pc : Int) + off = (tg : Int)) (kt : y ≤ x → Ev G d M tg lc st h v h') (kf : ¬ y ≤ x → Ev G d M nx lc st h v h') : Ev G d M pc lc (.int y :: .int x :: st) h v h' :=
  ⟨(Decidable.em (y ≤ x)).elim (fun q => (kt q).1) (fun q => (kf (by first | exact q | (simpa using q))).1), fun p e R s m args below meth c Q H locs ls n0 z0 C w hl h1 h2 h3 h4 kk => by
    refine lv_icmp_ge C.1 C.2.1 hd.1 ht (fun q => (kt q).2 p e R s m args below meth c Q H locs ls n0 z0 C w hl h1 h2 h3 h4 kk) (fun q => ?_)
    have K := (kf q).2 p e R s m args below meth c Q H locs ls n0 z0 C w hl h1 h2 h3 h4 kk
    rw [← hd.2] at K
    exact K⟩
theorem ev_if_gt {x : Int32} {off : Int} {tg : Nat} (hd : IX (md_c M) pc (.ifCond .gt off) 3 nx) (ht : (pc : Int) + off = (tg : Int)) (kt : 0 < x → Ev G d M tg lc st h v h') (kf : ¬ 0 < x → Ev G d M nx lc st h v h') : Ev G d M pc lc (.int x :: st) h v h' :=
  ⟨(Decidable.em (0 < x)).elim (fun q => (kt q).1) (fun q => (kf (by first | exact q | (simpa using q))).1), fun p e R s m args below meth c Q H locs ls n0 z0 C w hl h1 h2 h3 h4 kk => by
    refine lv_if_gt C.1 C.2.1 hd.1 ht (fun q => (kt q).2 p e R s m args below meth c Q H locs ls n0 z0 C w hl h1 h2 h3 h4 kk) (fun q => ?_)
    have K := (kf q).2 p e R s m args below meth c Q H locs ls n0 z0 C w hl h1 h2 h3 h4 kk
    rw [← hd.2] at K
    exact K⟩
theorem ev_icmp_gt {x y : Int32} {off : Int} {tg : Nat} (hd : IX (md_c M) pc (.if_icmp .gt off) 3 nx) (ht : (pc : Int) + off = (tg : Int)) (kt : y < x → Ev G d M tg lc st h v h') (kf : ¬ y < x → Ev G d M nx lc st h v h') : Ev G d M pc lc (.int y :: .int x :: st) h v h' :=
  ⟨(Decidable.em (y < x)).elim (fun q => (kt q).1) (fun q => (kf (by first | exact q | (simpa using q))).1), fun p e R s m args below meth c Q H locs ls n0 z0 C w hl h1 h2 h3 h4 kk => by
    refine lv_icmp_gt C.1 C.2.1 hd.1 ht (fun q => (kt q).2 p e R s m args below meth c Q H locs ls n0 z0 C w hl h1 h2 h3 h4 kk) (fun q => ?_)
    have K := (kf q).2 p e R s m args below meth c Q H locs ls n0 z0 C w hl h1 h2 h3 h4 kk
    rw [← hd.2] at K
    exact K⟩
theorem ev_if_le {x : Int32} {off : Int} {tg : Nat} (hd : IX (md_c M) pc (.ifCond .le off) 3 nx) (ht : (pc : Int) + off = (tg : Int)) (kt : x ≤ 0 → Ev G d M tg lc st h v h') (kf : ¬ x ≤ 0 → Ev G d M nx lc st h v h') : Ev G d M pc lc (.int x :: st) h v h' :=
  ⟨(Decidable.em (x ≤ 0)).elim (fun q => (kt q).1) (fun q => (kf (by first | exact q | (simpa using q))).1), fun p e R s m args below meth c Q H locs ls n0 z0 C w hl h1 h2 h3 h4 kk => by
    refine lv_if_le C.1 C.2.1 hd.1 ht (fun q => (kt q).2 p e R s m args below meth c Q H locs ls n0 z0 C w hl h1 h2 h3 h4 kk) (fun q => ?_)
    have K := (kf q).2 p e R s m args below meth c Q H locs ls n0 z0 C w hl h1 h2 h3 h4 kk
    rw [← hd.2] at K
    exact K⟩
theorem ev_icmp_le {x y : Int32} {off : Int} {tg : Nat} (hd : IX (md_c M) pc (.if_icmp .le off) 3 nx) (ht : (pc : Int) + off = (tg : Int)) (kt : x ≤ y → Ev G d M tg lc st h v h') (kf : ¬ x ≤ y → Ev G d M nx lc st h v h') : Ev G d M pc lc (.int y :: .int x :: st) h v h' :=
  ⟨(Decidable.em (x ≤ y)).elim (fun q => (kt q).1) (fun q => (kf (by first | exact q | (simpa using q))).1), fun p e R s m args below meth c Q H locs ls n0 z0 C w hl h1 h2 h3 h4 kk => by
    refine lv_icmp_le C.1 C.2.1 hd.1 ht (fun q => (kt q).2 p e R s m args below meth c Q H locs ls n0 z0 C w hl h1 h2 h3 h4 kk) (fun q => ?_)
    have K := (kf q).2 p e R s m args below meth c Q H locs ls n0 z0 C w hl h1 h2 h3 h4 kk
    rw [← hd.2] at K
    exact K⟩
theorem ev_tsIn {dflt lo hi : Int} {offs : Array Int} {len : Nat} {x : Int32} {off : Int} {tg : Nat} (hd : IX (md_c M) pc (.tableswitch dflt lo hi offs) len nx) (q1 : ¬ x.toInt < lo) (q2 : ¬ hi < x.toInt) (ho : offs[(x.toInt - lo).toNat]? = some off) (ht : (pc : Int) + off = (tg : Int)) (k : Ev G d M tg lc st h v h') : Ev G d M pc lc (.int x :: st) h v h' :=
  ⟨k.1, fun p e R s m args below meth c Q H locs ls n0 z0 C w hl h1 h2 h3 h4 kk => lv_tableIn C.1 C.2.1 hd.1 q1 q2 ho ht (k.2 p e R s m args below meth c Q H locs ls n0 z0 C w hl h1 h2 h3 h4 kk)⟩
theorem ev_tsOut {dflt lo hi : Int} {offs : Array Int} {len : Nat} {x : Int32} {tg : Nat} (hd : IX (md_c M) pc (.tableswitch dflt lo hi offs) len nx) (q1 : x.toInt < lo ∨ hi < x.toInt) (ht : (pc : Int) + dflt = (tg : Int)) (k : Ev G d M tg lc st h v h') : Ev G d M pc lc (.int x :: st) h v h' :=
  ⟨k.1, fun p e R s m args below meth c Q H locs ls n0 z0 C w hl h1 h2 h3 h4 kk => lv_tableOut C.1 C.2.1 hd.1 q1 ht (k.2 p e R s m args below meth c Q H locs ls n0 z0 C w hl h1 h2 h3 h4 kk)⟩
theorem ev_ifnull {a : Nat} {off : Int} (hd : IX (md_c M) pc (.ifnull off) 3 nx) (k : Ev G d M nx lc st h v h') : Ev G d M pc lc (.ref a :: st) h v h' :=
  ⟨k.1, fun p e R s m args below meth c Q H locs ls n0 z0 C w hl h1 h2 h3 h4 kk => by
    have K := k.2 p e R s m args below meth c Q H locs ls n0 z0 C w hl h1 h2 h3 h4 kk
    rw [← hd.2] at K
    exact lv_ifnull C.1 C.2.1 hd.1 K⟩
theorem ev_ifnonnullN {off : Int} (hd : IX (md_c M) pc (.ifnonnull off) 3 nx) (k : Ev G d M nx lc st h v h') : Ev G d M pc lc (.null :: st) h v h' :=
  ⟨k.1, fun p e R s m args below meth c Q H locs ls n0 z0 C w hl h1 h2 h3 h4 kk => by
    have K := k.2 p e R s m args below meth c Q H locs ls n0 z0 C w hl h1 h2 h3 h4 kk
    rw [← hd.2] at K
    exact lv_ifnonnullN C.1 C.2.1 hd.1 K⟩
theorem ev_ifnullN {off : Int} {tg : Nat} (hd : IX (md_c M) pc (.ifnull off) 3 nx) (ht : (pc : Int) + off = (tg : Int)) (k : Ev G d M tg lc st h v h') : Ev G d M pc lc (.null :: st) h v h' :=
  ⟨k.1, fun p e R s m args below meth c Q H locs ls n0 z0 C w hl h1 h2 h3 h4 kk => lv_ifnullN C.1 C.2.1 hd.1 ht (k.2 p e R s m args below meth c Q H locs ls n0 z0 C w hl h1 h2 h3 h4 kk)⟩
theorem ev_ifnonnull {a : Nat} {off : Int} {tg : Nat} (hd : IX (md_c M) pc (.ifnonnull off) 3 nx) (ht : (pc : Int) + off = (tg : Int)) (k : Ev G d M tg lc st h v h') : Ev G d M pc lc (.ref a :: st) h v h' :=
  ⟨k.1, fun p e R s m args below meth c Q H locs ls n0 z0 C w hl h1 h2 h3 h4 kk => lv_ifnonnull C.1 C.2.1 hd.1 ht (k.2 p e R s m args below meth c Q H locs ls n0 z0 C w hl h1 h2 h3 h4 kk)⟩
theorem ev_vret (hd : IX (md_c M) pc .return_ 1 nx) (hr : md_r M = none) : Ev G d M pc lc [] h none h :=
  ⟨⟨Nat.le_refl _, Nat.le_refl _⟩, fun p e R s m args below meth c Q H locs ls n0 z0 C w hl h1 h2 h3 h4 kk => kk H locs ls pc w (Or.inl ⟨rfl, hd.1, hr⟩)⟩
theorem ev_iret {x : Int32} {ty : FieldType} (hd : IX (md_c M) pc .ireturn 1 nx) (hr : md_r M = some ty) (hn : narrow ty (.int x) = .int x) : Ev G d M pc lc [.int x] h (some (.int x)) h :=
  ⟨⟨Nat.le_refl _, Nat.le_refl _⟩, fun p e R s m args below meth c Q H locs ls n0 z0 C w hl h1 h2 h3 h4 kk => kk H locs ls pc w (Or.inr (Or.inl ⟨x, ty, rfl, hd.1, hr, hn⟩))⟩
theorem ev_aret {u : Value} {n : String} (hd : IX (md_c M) pc .areturn 1 nx) (hr : md_r M = some (.object n)) (hu : u = .null ∨ ∃ a, u = .ref a) : Ev G d M pc lc [u] h (some u) h :=
  ⟨⟨Nat.le_refl _, Nat.le_refl _⟩, fun p e R s m args below meth c Q H locs ls n0 z0 C w hl h1 h2 h3 h4 kk => kk H locs ls pc w (Or.inr (Or.inr ⟨u, n, rfl, hu, hd.1, hr⟩))⟩
end

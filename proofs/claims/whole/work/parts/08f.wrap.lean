/-! ===== fewer locals; calls by what they answer ===== -/
def lsub : List (Option Value) → List (Option Value) → Prop
  | [], [] => True
  | a :: as, b :: bs => (b = none ∨ b = a) ∧ lsub as bs
  | _, _ => False
theorem lsub_len : ∀ (l l2 : List (Option Value)), lsub l l2 → l2.length = l.length
  | [], [], _ => rfl
  | a :: as, b :: bs, h => by simp only [List.length_cons]; rw [lsub_len as bs h.2]
  | [], _ :: _, h => h.elim
  | _ :: _, [], h => h.elim
theorem lsub_at : ∀ (l l2 : List (Option Value)), lsub l l2 → ∀ (i : Nat) (v : Value), l2[i]? = some (some v) → l[i]? = some (some v)
  | [], [], _, i, v, hv => hv
  | a :: as, b :: bs, h, 0, v, hv => by
    have hb : b = some v := by simpa using hv
    rcases h.1 with h1 | h1
    · rw [h1] at hb; cases hb
    · rw [← h1, hb]; rfl
  | a :: as, b :: bs, h, i + 1, v, hv => by
    have := lsub_at as bs h.2 i v (by simpa using hv)
    simpa using this
  | [], _ :: _, h, _, _, _ => h.elim
  | _ :: _, [], h, _, _, _ => h.elim
section
variable {G : GG} {d : Nat} {M : MD} {pc nx : Nat} {lc : List (Option Value)} {rest st : List Value} {h : MH} {v : Option Value} {h' : MH} {d2 : Nat} {N : MD} {h1 : MH}
theorem ev_sub {lc2 : List (Option Value)} (hs : lsub lc lc2) (k : Ev G d M pc lc2 st h v h') : Ev G d M pc lc st h v h' :=
  ⟨k.1, fun p e R s m args below meth c Q H locs ls n0 z0 C w hl h1 h2 h3 h4 kk => k.2 p e R s m args below meth c Q H locs ls n0 z0 C w ⟨hl.1, hl.2.1, (lsub_len _ _ hs).trans hl.2.2.1, fun i v hv => hl.2.2.2 i v (lsub_at _ _ hs i v hv)⟩ h1 h2 h3 h4 kk⟩
theorem ev_cV_i {idx ci np a : Nat} {x : Int32} (hd : IX (md_c M) pc (.invokevirtual idx) 3 nx) (L : LV M idx N ci np) (As : List Value) (hst : st = As.reverse ++ .ref a :: rest) (hnp : As.length = np) (hl2 : np + 1 ≤ md_l N) (ha : a < mm_N h) (hk : mm_K h a = ci) (hrest : rest.length ≤ 8) (hdd : d2 + 1 ≤ d)
    (E : Ev G d2 N 0 (ent N (.ref a :: As)) [] h (some (.int x)) h1) (k : Ev G d M nx lc (.int x :: rest) h1 v h') : Ev G d M pc lc st h v h' := ev_callV hd L As hst hnp hl2 ha hk hrest hdd E k
theorem ev_cV_r {idx ci np a : Nat} {o : Option Nat} (hd : IX (md_c M) pc (.invokevirtual idx) 3 nx) (L : LV M idx N ci np) (As : List Value) (hst : st = As.reverse ++ .ref a :: rest) (hnp : As.length = np) (hl2 : np + 1 ≤ md_l N) (ha : a < mm_N h) (hk : mm_K h a = ci) (hrest : rest.length ≤ 8) (hdd : d2 + 1 ≤ d)
    (E : Ev G d2 N 0 (ent N (.ref a :: As)) [] h (some (va_rf o)) h1) (k : Ev G d M nx lc (va_rf o :: rest) h1 v h') : Ev G d M pc lc st h v h' := ev_callV hd L As hst hnp hl2 ha hk hrest hdd E k
theorem ev_cV_v {idx ci np a : Nat} (hd : IX (md_c M) pc (.invokevirtual idx) 3 nx) (L : LV M idx N ci np) (As : List Value) (hst : st = As.reverse ++ .ref a :: rest) (hnp : As.length = np) (hl2 : np + 1 ≤ md_l N) (ha : a < mm_N h) (hk : mm_K h a = ci) (hrest : rest.length ≤ 8) (hdd : d2 + 1 ≤ d)
    (E : Ev G d2 N 0 (ent N (.ref a :: As)) [] h none h1) (k : Ev G d M nx lc rest h1 v h') : Ev G d M pc lc st h v h' := ev_callV hd L As hst hnp hl2 ha hk hrest hdd E k
theorem ev_cS_i {idx np : Nat} {x : Int32} (hd : IX (md_c M) pc (.invokestatic idx) 3 nx) (L : LS2 M idx N np) (As : List Value) (hst : st = As.reverse ++ rest) (hnp : As.length = np) (hl2 : np ≤ md_l N) (hrest : rest.length ≤ 8) (hdd : d2 + 1 ≤ d)
    (E : Ev G d2 N 0 (ent N As) [] h (some (.int x)) h1) (k : Ev G d M nx lc (.int x :: rest) h1 v h') : Ev G d M pc lc st h v h' := ev_callS hd L As hst hnp hl2 hrest hdd E k
theorem ev_cS_v {idx np : Nat} (hd : IX (md_c M) pc (.invokestatic idx) 3 nx) (L : LS2 M idx N np) (As : List Value) (hst : st = As.reverse ++ rest) (hnp : As.length = np) (hl2 : np ≤ md_l N) (hrest : rest.length ≤ 8) (hdd : d2 + 1 ≤ d)
    (E : Ev G d2 N 0 (ent N As) [] h none h1) (k : Ev G d M nx lc rest h1 v h') : Ev G d M pc lc st h v h' := ev_callS hd L As hst hnp hl2 hrest hdd E k
theorem ev_cI_v {idx np a : Nat} (hd : IX (md_c M) pc (.invokespecial idx) 3 nx) (L : LI M idx N np) (As : List Value) (hst : st = As.reverse ++ .ref a :: rest) (hnp : As.length = np) (hl2 : np + 1 ≤ md_l N) (hrest : rest.length ≤ 8) (hdd : d2 + 1 ≤ d)
    (E : Ev G d2 N 0 (ent N (.ref a :: As)) [] h none h1) (k : Ev G d M nx lc rest h1 v h') : Ev G d M pc lc st h v h' := ev_callI hd L As hst hnp hl2 hrest hdd E k
end

/-! ===== rows of the judgement that read and write the heap ===== -/
def FL (own : String) (idx ci k : Nat) : Prop := ci < 11 ∧ k < mm_nf ci ∧ (Cond.fieldLink own idx (mm_T ci k).1 (mm_T ci k).2.1 (mm_T ci k).2.2.1 ∈ gtb ∨ ∃ host, Cond.fieldLinkNest own idx (mm_T ci k).1 (mm_T ci k).2.1 (mm_T ci k).2.2.1 host ∈ lw_tbl)
def FP (M : MD) (idx ci k : Nat) : Prop := ci < 11 ∧ k < mm_nf ci ∧ Cond.fieldLink (md_o M) idx (mm_T ci k).1 (mm_T ci k).2.1 (mm_T ci k).2.2.1 ∈ gtb ∧ ((mm_T ci k).2.2.2 = false ∨ ((mm_T ci k).2.2.2 = true ∧ md_i M = true ∧ (mm_T ci k).1 = md_o M))
theorem mm_w_si {tc : Nat → ClassId} {bs : Nat} {h : MH} {a k : Nat} {x : Int32} (ha : a < mm_N h) : (mm_w tc bs h).set a (bs + a, mm_e tc bs (mm_si h a k x) a) = mm_w tc bs (mm_si h a k x) := mm_w_set (h' := mm_si h a k x) rfl (fun b hb => mm_si_e hb) ha
theorem mm_w_sr {tc : Nat → ClassId} {bs : Nat} {h : MH} {a k : Nat} {x : Option Nat} (ha : a < mm_N h) : (mm_w tc bs h).set a (bs + a, mm_e tc bs (mm_sr h a k x) a) = mm_w tc bs (mm_sr h a k x) := mm_w_set (h' := mm_sr h a k x) rfl (fun b hb => mm_sr_e hb) ha
theorem mm_w_no {tc : Nat → ClassId} {bs : Nat} {h : MH} {ci : Nat} : mm_w tc bs h ++ [(bs + mm_N h, mm_e tc bs (mm_no h ci) (mm_N h))] = mm_w tc bs (mm_no h ci) := mm_w_push (h' := mm_no h ci) rfl (fun b hb => mm_no_e hb)
theorem mm_w_na {tc : Nat → ClassId} {bs : Nat} {h : MH} {kd n : Nat} : mm_w tc bs h ++ [(bs + mm_N h, mm_e tc bs (mm_na h kd n) (mm_N h))] = mm_w tc bs (mm_na h kd n) := mm_w_push (h' := mm_na h kd n) rfl (fun b hb => mm_na_e hb)
theorem cv_rf (G : GG) (r : Option Nat) : cv G (va_rf r) = va_rf (r.map (fun q => gg_b G + q)) := by cases r <;> rfl
section
variable {G : GG} {d : Nat} {M : MD} {pc nx : Nat} {lc : List (Option Value)} {st : List Value} {h : MH} {v : Option Value} {h' : MH}
theorem ev_getI {ci k a idx : Nat} (hd : IX (md_c M) pc (.getfield idx) 3 nx) (hf : FL (md_o M) idx ci k) (hi : mm_ii ci k = true) (ha : a < mm_N h) (hk : mm_K h a = ci) (q : Ev G d M nx lc (.int (mm_I h a k) :: st) h v h') : Ev G d M pc lc (.ref a :: st) h v h' :=
  ⟨q.1, fun p e R s m args below meth c Q H locs ls n0 z0 C w hl h1 h2 h3 h4 kk => by
    have K := q.2 p e R s m args below meth c Q H locs ls n0 z0 C w hl h1 h2 h3 h4 kk
    rw [← hd.2] at K
    obtain ⟨hc, hkn, hf⟩ := hf
    have he : (mm_w (gg_t G) (gg_b G) h)[a]? = some (gg_b G + a, .inr (ci, mm_f (gg_b G) h a)) := by rw [mm_w_at ha, mm_e_obj hk hc]
    have hv : (mm_f (gg_b G) h a)[k]? = some (.int (mm_I h a k)) := by rw [mm_f_at (by rw [hk]; exact hkn)]; simp [mm_v, hk, hi]
    rcases hf with hf | ⟨host, hf⟩
    · exact va_get C.1 C.2.1 C.2.2.2.2.1 (mm_ws hc) C.2.2.2.1 C.2.2.2.2.2.2.1 w.1 a he (mm_cl hc) k hkn (C.2.2.2.2.1 _ hf) (fun _ h9 => h9) hv hd.1 K
    · exact va_getN C.1 C.2.1 C.2.2.2.2.1 (mm_ws hc) C.2.2.2.1 C.2.2.2.2.2.2.1 w.1 a he (mm_cl hc) k hkn (va_Nw.use rfl (C.2.2.2.2.2.1 _ hf rfl)) (fun _ h9 => h9) hv hd.1 K⟩
theorem ev_getR {ci k a b idx : Nat} (hd : IX (md_c M) pc (.getfield idx) 3 nx) (hf : FL (md_o M) idx ci k) (hi : mm_ii ci k = false) (ha : a < mm_N h) (hk : mm_K h a = ci) (hr : mm_R h a k = some b) (q : Ev G d M nx lc (.ref b :: st) h v h') : Ev G d M pc lc (.ref a :: st) h v h' :=
  ⟨q.1, fun p e R s m args below meth c Q H locs ls n0 z0 C w hl h1 h2 h3 h4 kk => by
    have K := q.2 p e R s m args below meth c Q H locs ls n0 z0 C w hl h1 h2 h3 h4 kk
    rw [← hd.2] at K
    obtain ⟨hc, hkn, hf⟩ := hf
    have he : (mm_w (gg_t G) (gg_b G) h)[a]? = some (gg_b G + a, .inr (ci, mm_f (gg_b G) h a)) := by rw [mm_w_at ha, mm_e_obj hk hc]
    have hv : (mm_f (gg_b G) h a)[k]? = some (cv G (.ref b)) := by rw [mm_f_at (by rw [hk]; exact hkn)]; simp [mm_v, hk, hi, hr, va_rf, cv]
    rcases hf with hf | ⟨host, hf⟩
    · exact va_get C.1 C.2.1 C.2.2.2.2.1 (mm_ws hc) C.2.2.2.1 C.2.2.2.2.2.2.1 w.1 a he (mm_cl hc) k hkn (C.2.2.2.2.1 _ hf) (fun _ h9 => h9) hv hd.1 K
    · exact va_getN C.1 C.2.1 C.2.2.2.2.1 (mm_ws hc) C.2.2.2.1 C.2.2.2.2.2.2.1 w.1 a he (mm_cl hc) k hkn (va_Nw.use rfl (C.2.2.2.2.2.1 _ hf rfl)) (fun _ h9 => h9) hv hd.1 K⟩
theorem ev_putI {ci k a idx : Nat} {x : Int32} (hd : IX (md_c M) pc (.putfield idx) 3 nx) (hf : FP M idx ci k) (hz : mm_ty ci k = .int ∨ (mm_ty ci k = .boolean ∧ (x = 0 ∨ x = 1))) (ha : a < mm_N h) (hk : mm_K h a = ci) (q : Ev G d M nx lc st (mm_si h a k x) v h') : Ev G d M pc lc (.int x :: .ref a :: st) h v h' :=
  ⟨q.1, fun p e R s m args below meth c Q H locs ls n0 z0 C w hl h1 h2 h3 h4 kk => by
    obtain ⟨hc, hkn, hf, hfin⟩ := hf
    have hi : mm_ii ci k = true := by rcases hz with hz | ⟨hz, -⟩ <;> simp [mm_ii, hz, mm_isI]
    have he : (mm_w (gg_t G) (gg_b G) h)[a]? = some (gg_b G + a, .inr (ci, mm_f (gg_b G) h a)) := by rw [mm_w_at ha, mm_e_obj hk hc]
    have hn : narrow (mm_ty ci k) (.int x) = .int x ∧ fits (mm_ty ci k) (.int x) = true := by
      rcases hz with hz | ⟨hz, hz2 | hz2⟩
      · rw [hz]; exact ⟨rfl, rfl⟩
      · rw [hz, hz2]; exact ⟨by decide, by decide⟩
      · rw [hz, hz2]; exact ⟨by decide, by decide⟩
    refine pu_put C.1 C.2.1 C.2.2.2.2.1 (mm_ws hc) (mm_ty ci) (mm_tyok hc) (mm_nm hc) C.2.2.2.1 C.2.2.2.2.2.2.1 w.1 mm_w_D w.2.1 a he (mm_cl hc) k hkn (C.2.2.2.2.1 _ hf) ?_ hn.1 hn.2 (by rw [mm_f_len, hk]; exact hkn) hd.1 (fun H1 locs1 hP1 hS1 hz1 => ?_)
    · rcases hfin with hfin | ⟨f1, f2, f3⟩
      · exact Or.inl hfin
      · exact Or.inr ⟨f1, C.2.2.2.2.2.2.2.2.1 f2, f3⟩
    · have e1 : (mm_f (gg_b G) h a).set k (cv G (.int x)) = mm_f (gg_b G) (mm_si h a k x) a := mm_f_set rfl (by simp [mm_v, si_K, hk, hi, si_I, cv]) (fun j hj => by simp [mm_v, si_K, si_R, si_I, hj])
      have e2 : mm_e (gg_t G) (gg_b G) (mm_si h a k x) a = .inr (ci, mm_f (gg_b G) (mm_si h a k x) a) := mm_e_obj (by rw [si_K]; exact hk) hc
      rw [e1, ← e2, mm_w_si ha] at hP1
      have K := q.2 p e R s m args below meth c Q H1 locs1 ls n0 z0 C ⟨hP1, hS1, hz1.trans w.2.2⟩ hl h1 h2 h3 h4 kk
      rw [← hd.2] at K
      exact K⟩
theorem ev_putR {ci k a b idx : Nat} (hd : IX (md_c M) pc (.putfield idx) 3 nx) (hf : FP M idx ci k) (hi : mm_ii ci k = false) (ha : a < mm_N h) (hk : mm_K h a = ci) (q : Ev G d M nx lc st (mm_sr h a k (some b)) v h') : Ev G d M pc lc (.ref b :: .ref a :: st) h v h' :=
  ⟨q.1, fun p e R s m args below meth c Q H locs ls n0 z0 C w hl h1 h2 h3 h4 kk => by
    obtain ⟨hc, hkn, hf, hfin⟩ := hf
    have he : (mm_w (gg_t G) (gg_b G) h)[a]? = some (gg_b G + a, .inr (ci, mm_f (gg_b G) h a)) := by rw [mm_w_at ha, mm_e_obj hk hc]
    have hn : narrow (mm_ty ci k) (cv G (.ref b)) = cv G (.ref b) ∧ fits (mm_ty ci k) (cv G (.ref b)) = true := by
      have hh := mm_tyk hc k hkn
      simp only [mm_ii] at hi
      rw [hi] at hh
      cases ht : mm_ty ci k <;> simp [ht, mm_isR] at hh <;> exact ⟨rfl, rfl⟩
    refine pu_put C.1 C.2.1 C.2.2.2.2.1 (mm_ws hc) (mm_ty ci) (mm_tyok hc) (mm_nm hc) C.2.2.2.1 C.2.2.2.2.2.2.1 w.1 mm_w_D w.2.1 a he (mm_cl hc) k hkn (C.2.2.2.2.1 _ hf) ?_ hn.1 hn.2 (by rw [mm_f_len, hk]; exact hkn) hd.1 (fun H1 locs1 hP1 hS1 hz1 => ?_)
    · rcases hfin with hfin | ⟨f1, f2, f3⟩
      · exact Or.inl hfin
      · exact Or.inr ⟨f1, C.2.2.2.2.2.2.2.2.1 f2, f3⟩
    · have e1 : (mm_f (gg_b G) h a).set k (cv G (.ref b)) = mm_f (gg_b G) (mm_sr h a k (some b)) a := mm_f_set rfl (by simp [mm_v, sr_K, hk, hi, sr_R, va_rf, cv]) (fun j hj => by simp [mm_v, sr_K, sr_R, sr_I, hj])
      have e2 : mm_e (gg_t G) (gg_b G) (mm_sr h a k (some b)) a = .inr (ci, mm_f (gg_b G) (mm_sr h a k (some b)) a) := mm_e_obj (by rw [sr_K]; exact hk) hc
      rw [e1, ← e2, mm_w_sr ha] at hP1
      have K := q.2 p e R s m args below meth c Q H1 locs1 ls n0 z0 C ⟨hP1, hS1, hz1.trans w.2.2⟩ hl h1 h2 h3 h4 kk
      rw [← hd.2] at K
      exact K⟩
theorem ev_iald {a : Nat} {i : Int32} (hd : IX (md_c M) pc .iaload 1 nx) (ha : a < mm_N h) (hk : mm_K h a = 11) (hin : vp_in i (mm_L h a)) (q : Ev G d M nx lc (.int (mm_I h a i.toNatClampNeg) :: st) h v h') : Ev G d M pc lc (.int i :: .ref a :: st) h v h' :=
  ⟨q.1, fun p e R s m args below meth c Q H locs ls n0 z0 C w hl h1 h2 h3 h4 kk => by
    have K := q.2 p e R s m args below meth c Q H locs ls n0 z0 C w hl h1 h2 h3 h4 kk
    rw [← hd.2] at K
    have he : (mm_w (gg_t G) (gg_b G) h)[a]? = some (gg_b G + a, .inl (gg_t G 11, mm_L h a, .inl (mm_I h a))) := by rw [mm_w_at ha, mm_e_int (Or.inl hk), hk]
    exact va_iald C.1 C.2.1 C.2.2.2.2.2.2.1 w.1 a 0 he rfl hin hd.1 K⟩
theorem ev_bald {a : Nat} {i : Int32} (hd : IX (md_c M) pc .baload 1 nx) (ha : a < mm_N h) (hk : mm_K h a = 12) (hin : vp_in i (mm_L h a)) (q : Ev G d M nx lc (.int (mm_I h a i.toNatClampNeg) :: st) h v h') : Ev G d M pc lc (.int i :: .ref a :: st) h v h' :=
  ⟨q.1, fun p e R s m args below meth c Q H locs ls n0 z0 C w hl h1 h2 h3 h4 kk => by
    have K := q.2 p e R s m args below meth c Q H locs ls n0 z0 C w hl h1 h2 h3 h4 kk
    rw [← hd.2] at K
    have he : (mm_w (gg_t G) (gg_b G) h)[a]? = some (gg_b G + a, .inl (gg_t G 12, mm_L h a, .inl (mm_I h a))) := by rw [mm_w_at ha, mm_e_int (Or.inr hk), hk]
    exact va_zald C.1 C.2.1 C.2.2.2.2.2.2.1 w.1 a 1 he rfl hin hd.1 K⟩
theorem ev_aald {a b : Nat} {i : Int32} (hd : IX (md_c M) pc .aaload 1 nx) (ha : a < mm_N h) (hk : mm_K h a = 13 ∨ mm_K h a = 14 ∨ mm_K h a = 15) (hin : vp_in i (mm_L h a)) (hr : mm_R h a i.toNatClampNeg = some b) (q : Ev G d M nx lc (.ref b :: st) h v h') : Ev G d M pc lc (.int i :: .ref a :: st) h v h' :=
  ⟨q.1, fun p e R s m args below meth c Q H locs ls n0 z0 C w hl h1 h2 h3 h4 kk => by
    have K := q.2 p e R s m args below meth c Q H locs ls n0 z0 C w hl h1 h2 h3 h4 kk
    rw [← hd.2] at K
    have he : (mm_w (gg_t G) (gg_b G) h)[a]? = some (gg_b G + a, .inl (gg_t G (mm_K h a), mm_L h a, .inr (.inr (.inr (.inr (fun i => (mm_R h a i).map (fun q => gg_b G + q))))))) := by rw [mm_w_at ha, mm_e_ref (by omega)]
    have hval : va_rf ((mm_R h a i.toNatClampNeg).map (fun q => gg_b G + q)) = cv G (.ref b) := by rw [hr]; rfl
    rcases hk with hk | hk | hk
    · rw [hk] at he
      refine va_aldq C.1 C.2.1 C.2.2.2.2.2.2.1 w.1 a 2 he rfl hin hd.1 ?_
      rw [hval]; exact K
    · rw [hk] at he
      refine va_aldq C.1 C.2.1 C.2.2.2.2.2.2.1 w.1 a 3 he rfl hin hd.1 ?_
      rw [hval]; exact K
    · rw [hk] at he
      refine va_aldq C.1 C.2.1 C.2.2.2.2.2.2.1 w.1 a 4 he rfl hin hd.1 ?_
      rw [hval]; exact K⟩
theorem ev_iast {a : Nat} {i x : Int32} (hd : IX (md_c M) pc .iastore 1 nx) (ha : a < mm_N h) (hk : mm_K h a = 11) (hin : vp_in i (mm_L h a)) (q : Ev G d M nx lc st (mm_si h a i.toNatClampNeg x) v h') : Ev G d M pc lc (.int x :: .int i :: .ref a :: st) h v h' :=
  ⟨q.1, fun p e R s m args below meth c Q H locs ls n0 z0 C w hl h1 h2 h3 h4 kk => by
    have he : (mm_w (gg_t G) (gg_b G) h)[a]? = some (gg_b G + a, .inl (gg_t G 11, mm_L h a, .inl (mm_I h a))) := by rw [mm_w_at ha, mm_e_int (Or.inl hk), hk]
    refine pu_iast C.1 C.2.1 C.2.2.2.2.2.2.1 w.1 mm_w_D w.2.1 a 0 he rfl hin hd.1 (fun H1 locs1 hP1 hS1 hz1 => ?_)
    have e2 : mm_e (gg_t G) (gg_b G) (mm_si h a i.toNatClampNeg x) a = .inl (gg_t G 11, mm_L h a, .inl (upd (mm_I h a) i.toNatClampNeg x)) := by
      rw [mm_e_int (by rw [si_K]; exact Or.inl hk), si_K, hk, si_L]
      simp [mm_si, mm_I, va_up]
    rw [← e2, mm_w_si ha] at hP1
    have K := q.2 p e R s m args below meth c Q H1 locs1 ls n0 z0 C ⟨hP1, hS1, hz1.trans w.2.2⟩ hl h1 h2 h3 h4 kk
    rw [← hd.2] at K
    exact K⟩
theorem ev_bast {a : Nat} {i x : Int32} (hd : IX (md_c M) pc .bastore 1 nx) (hx : x = 0 ∨ x = 1) (ha : a < mm_N h) (hk : mm_K h a = 12) (hin : vp_in i (mm_L h a)) (q : Ev G d M nx lc st (mm_si h a i.toNatClampNeg x) v h') : Ev G d M pc lc (.int x :: .int i :: .ref a :: st) h v h' :=
  ⟨q.1, fun p e R s m args below meth c Q H locs ls n0 z0 C w hl h1 h2 h3 h4 kk => by
    have he : (mm_w (gg_t G) (gg_b G) h)[a]? = some (gg_b G + a, .inl (gg_t G 12, mm_L h a, .inl (mm_I h a))) := by rw [mm_w_at ha, mm_e_int (Or.inr hk), hk]
    refine pu_zast C.1 C.2.1 C.2.2.2.2.2.2.1 w.1 mm_w_D w.2.1 a 1 he rfl (by rcases hx with rfl | rfl <;> decide) hin hd.1 (fun H1 locs1 hP1 hS1 hz1 => ?_)
    have e2 : mm_e (gg_t G) (gg_b G) (mm_si h a i.toNatClampNeg x) a = .inl (gg_t G 12, mm_L h a, .inl (upd (mm_I h a) i.toNatClampNeg x)) := by
      rw [mm_e_int (by rw [si_K]; exact Or.inr hk), si_K, hk, si_L]
      simp [mm_si, mm_I, va_up]
    rw [← e2, mm_w_si ha] at hP1
    have K := q.2 p e R s m args below meth c Q H1 locs1 ls n0 z0 C ⟨hP1, hS1, hz1.trans w.2.2⟩ hl h1 h2 h3 h4 kk
    rw [← hd.2] at K
    exact K⟩
theorem ev_aast {a b : Nat} {i : Int32} (hd : IX (md_c M) pc .aastore 1 nx) (ha : a < mm_N h) (hb : b < mm_N h) (hk : (mm_K h a = 13 ∧ mm_K h b = 2) ∨ (mm_K h a = 14 ∧ mm_K h b = 5) ∨ (mm_K h a = 15 ∧ mm_K h b = 7)) (hin : vp_in i (mm_L h a)) (q : Ev G d M nx lc st (mm_sr h a i.toNatClampNeg (some b)) v h') : Ev G d M pc lc (.ref b :: .int i :: .ref a :: st) h v h' :=
  ⟨q.1, fun p e R s m args below meth c Q H locs ls n0 z0 C w hl h1 h2 h3 h4 kk => by
    have he : (mm_w (gg_t G) (gg_b G) h)[a]? = some (gg_b G + a, .inl (gg_t G (mm_K h a), mm_L h a, .inr (.inr (.inr (.inr (fun i => (mm_R h a i).map (fun q => gg_b G + q))))))) := by rw [mm_w_at ha, mm_e_ref (by omega)]
    have hbe : (mm_w (gg_t G) (gg_b G) h)[b]? = some (gg_b G + b, .inr (mm_K h b, mm_f (gg_b G) h b)) := by rw [mm_w_at hb, mm_e_obj rfl (by omega)]
    have e2 : mm_e (gg_t G) (gg_b G) (mm_sr h a i.toNatClampNeg (some b)) a = .inl (gg_t G (mm_K h a), mm_L h a, .inr (.inr (.inr (.inr (va_up (fun i => (mm_R h a i).map (fun q => gg_b G + q)) i.toNatClampNeg (some (gg_b G + b))))))) := by
      rw [mm_e_ref (by rw [sr_K]; omega), sr_K, sr_L]
      congr 7
      funext j
      simp only [sr_R, true_and, va_up]
      by_cases e : j = i.toNatClampNeg <;> simp [e]
    have fin : ∀ (H1 : Heap) (locs1 : List Loc), va_P (gg_D G) vwCl ((mm_w (gg_t G) (gg_b G) h).set a (gg_b G + a, .inl (gg_t G (mm_K h a), mm_L h a, .inr (.inr (.inr (.inr (va_up (fun i => (mm_R h a i).map (fun q => gg_b G + q)) i.toNatClampNeg (some (gg_b G + b))))))))) H1 → va_S (fun q => gg_b G ≤ q) s.heap H1 locs1 → H1.size = H.size → W p (gg_l G) e R s m args below meth c H1 locs1 (mm_N h - n0) (mm_S h - z0) Q (F0 m (pc + 1) ls (st.map (cv G))) := fun H1 locs1 hP1 hS1 hz1 => by
      rw [← e2, mm_w_sr ha] at hP1
      have K := q.2 p e R s m args below meth c Q H1 locs1 ls n0 z0 C ⟨hP1, hS1, hz1.trans w.2.2⟩ hl h1 h2 h3 h4 kk
      rw [← hd.2] at K
      exact K
    rcases hk with ⟨k1, k2⟩ | ⟨k1, k2⟩ | ⟨k1, k2⟩
    · rw [k1] at he fin
      rw [k2] at hbe
      exact pu_aast C.1 C.2.1 C.2.2.2.2.2.2.1 w.1 mm_w_D w.2.1 a 2 b 2 (r := (RX2, TX2, 3)) he rfl hbe rfl hin hd.1 fin
    · rw [k1] at he fin
      rw [k2] at hbe
      exact pu_aast C.1 C.2.1 C.2.2.2.2.2.2.1 w.1 mm_w_D w.2.1 a 3 b 5 (r := (RX5, TX5, 6)) he rfl hbe rfl hin hd.1 fin
    · rw [k1] at he fin
      rw [k2] at hbe
      exact pu_aast C.1 C.2.1 C.2.2.2.2.2.2.1 w.1 mm_w_D w.2.1 a 4 b 7 (r := (RX7, TX7, 6)) he rfl hbe rfl hin hd.1 fin⟩
theorem ev_alen {a : Nat} (hd : IX (md_c M) pc .arraylength 1 nx) (ha : a < mm_N h) (hk : mm_K h a = 11) (q : Ev G d M nx lc (.int (Int32.ofNat (mm_L h a)) :: st) h v h') : Ev G d M pc lc (.ref a :: st) h v h' :=
  ⟨q.1, fun p e R s m args below meth c Q H locs ls n0 z0 C w hl h1 h2 h3 h4 kk => by
    have K := q.2 p e R s m args below meth c Q H locs ls n0 z0 C w hl h1 h2 h3 h4 kk
    rw [← hd.2] at K
    have he : (mm_w (gg_t G) (gg_b G) h)[a]? = some (gg_b G + a, .inl (gg_t G 11, mm_L h a, .inl (mm_I h a))) := by rw [mm_w_at ha, mm_e_int (Or.inl hk), hk]
    exact va_alen C.1 C.2.1 C.2.2.2.2.2.2.1 w.1 a 0 he rfl rfl hd.1 K⟩
/-- the script -/
theorem ev_sld {z : Int64} {i : Int32} (hM : md_o M = RL) (hd : IX (md_c M) pc .iaload 1 nx) (hin : vp_in i (gg_L G)) (q : Ev G d M nx lc (.int (gg_x G i.toNatClampNeg) :: st) h v h') : Ev G d M pc lc (.int i :: .long z :: st) h v h' :=
  ⟨q.1, fun p e R s m args below meth c Q H locs ls n0 z0 C w hl h1 h2 h3 h4 kk => by
    have K := q.2 p e R s m args below meth c Q H locs ls n0 z0 C w hl h1 h2 h3 h4 kk
    rw [← hd.2] at K
    obtain ⟨hX, hb⟩ := C.2.2.2.2.2.2.2.2.2.2 hM
    exact va_sld C.1 C.2.1 hX (Nat.lt_of_lt_of_le hb C.2.2.2.2.2.2.2.1) (Nat.not_le.mpr hb) w.2.1 hin hd.1 K⟩
theorem ev_slen {z : Int64} (hM : md_o M = RL) (hd : IX (md_c M) pc .arraylength 1 nx) (q : Ev G d M nx lc (.int (Int32.ofNat (gg_L G)) :: st) h v h') : Ev G d M pc lc (.long z :: st) h v h' :=
  ⟨q.1, fun p e R s m args below meth c Q H locs ls n0 z0 C w hl h1 h2 h3 h4 kk => by
    have K := q.2 p e R s m args below meth c Q H locs ls n0 z0 C w hl h1 h2 h3 h4 kk
    rw [← hd.2] at K
    obtain ⟨hX, hb⟩ := C.2.2.2.2.2.2.2.2.2.2 hM
    exact va_slen C.1 C.2.1 hX (Nat.lt_of_lt_of_le hb C.2.2.2.2.2.2.2.1) (Nat.not_le.mpr hb) w.2.1 hd.1 K⟩
/-- new objects and arrays -/
def NC (own : String) (idx ci : Nat) : Prop := ci < 11 ∧ Cond.classLink own idx (mm_C ci) ∈ gtb ∧ Cond.instantiable (mm_C ci) (mm_nf ci) ∈ gtb ∧ Cond.initialized (mm_C ci) ∈ gtb
theorem no_K (h : MH) (ci : Nat) : mm_K (mm_no h ci) (mm_N h) = ci := by show va_up _ _ _ _ = _; simp [va_up]
theorem na_K (h : MH) (kd n : Nat) : mm_K (mm_na h kd n) (mm_N h) = kd := by show va_up _ _ _ _ = _; simp [va_up]
theorem na_L (h : MH) (kd n : Nat) : mm_L (mm_na h kd n) (mm_N h) = n := by show va_up _ _ _ _ = _; simp [va_up]
theorem ev_new {ci idx : Nat} (hd : IX (md_c M) pc (.new idx) 3 nx) (hc : NC (md_o M) idx ci) (q : Ev G d M nx lc (.ref (mm_N h) :: st) (mm_no h ci) v h') : Ev G d M pc lc st h v h' := by
  have m1 : mm_N h + 1 ≤ mm_N h' := q.1.1
  have m2 : mm_S h + mm_nf ci ≤ mm_S h' := q.1.2
  refine ⟨⟨by omega, by omega⟩, fun p e R s m args below meth c Q H locs ls n0 z0 C w hl h1 h2 h3 h4 kk => ?_⟩
  obtain ⟨hc, w1, w2, w3⟩ := hc
  refine pu_new C.1 C.2.1 C.2.2.2.2.1 (mm_ws hc) (mm_ty ci) (mm_tyok hc) C.2.2.2.1 (C.2.2.2.2.1 _ w1) (C.2.2.2.2.1 _ w2) (C.2.2.2.2.1 _ w3) C.2.2.2.2.2.2.1 w.1 w.2.1 (mm_cl hc) (fs := mm_f (gg_b G) (mm_no h ci) (mm_N h)) (fun j hj => ?_) (by omega) (by omega) hd.1 (fun H1 hP1 hS1 hz1 => ?_)
  · have e1 : (mm_f (gg_b G) (mm_no h ci) (mm_N h))[j]? = some (mm_v (gg_b G) (mm_no h ci) (mm_N h) j) := mm_f_at (by rw [no_K]; exact hj)
    rw [mm_dv (mm_tyk hc j hj)]
    simp only [vp_V, List.getD, e1, Option.getD_some, mm_v, no_K, mm_ii]
    have e2 : mm_I (mm_no h ci) (mm_N h) j = 0 := by simp [mm_no, mm_I, mm_N, va_up]
    have e3 : mm_R (mm_no h ci) (mm_N h) j = none := by simp [mm_no, mm_R, mm_N, va_up]
    rw [e2, e3]; rfl
  · have e2 : mm_e (gg_t G) (gg_b G) (mm_no h ci) (mm_N h) = .inr (ci, mm_f (gg_b G) (mm_no h ci) (mm_N h)) := mm_e_obj (no_K h ci) hc
    rw [w.2.2, ← e2, mm_w_no] at hP1
    have K := q.2 p e R s m args below meth c Q H1 locs ls n0 z0 C ⟨hP1, hS1, by rw [hz1, w.2.2]; rfl⟩ hl (Nat.le_succ_of_le h1) (Nat.le_trans h2 (Nat.le_add_right _ _)) h3 h4 kk
    rw [← hd.2] at K
    have c1 : mm_N (mm_no h ci) - n0 = mm_N h - n0 + 1 := by show mm_N h + 1 - n0 = _; omega
    have c2 : mm_S (mm_no h ci) - z0 = mm_S h - z0 + mm_nf ci := by show mm_S h + mm_nf ci - z0 = _; omega
    rw [c1, c2] at K
    rw [w.2.2]
    exact K
theorem ev_newa {kd : Nat} {at_ : ArrayType} {n : Int32} (hd : IX (md_c M) pc (.newarray at_) 2 nx) (ht : (kd = 11 ∧ newarray.typeOf at_ = .int) ∨ (kd = 12 ∧ newarray.typeOf at_ = .boolean)) (hw : Cond.arrayClass (newarray.typeOf at_) ∈ gtb) (hn : ¬ n < 0) (hs : n.toNatClampNeg ≤ 100000) (q : Ev G d M nx lc (.ref (mm_N h) :: st) (mm_na h kd n.toNatClampNeg) v h') : Ev G d M pc lc (.int n :: st) h v h' := by
  have m1 : mm_N h + 1 ≤ mm_N h' := q.1.1
  have m2 : mm_S h + n.toNatClampNeg ≤ mm_S h' := q.1.2
  refine ⟨⟨by omega, by omega⟩, fun p e R s m args below meth c Q H locs ls n0 z0 C w hl h1 h2 h3 h4 kk => ?_⟩
  have hcb : n.toNatClampNeg * componentBytes (newarray.typeOf at_) ≤ 536870912 := by
    rcases ht with ⟨-, ht⟩ | ⟨-, ht⟩ <;> rw [ht] <;> simp [componentBytes] <;> omega
  have hdf : defaultValue (newarray.typeOf at_) = .int 0 := by rcases ht with ⟨-, ht⟩ | ⟨-, ht⟩ <;> rw [ht] <;> rfl
  have hfc : s.vm.findClass ("[" ++ (newarray.typeOf at_).toString) = some (gg_t G kd) := by
    rcases ht with ⟨rfl, ht⟩ | ⟨rfl, ht⟩
    · rw [ht]; exact (C.2.2.2.2.2.2.1.2 0 _ rfl).2
    · rw [ht]; exact (C.2.2.2.2.2.2.1.2 1 _ rfl).2
  refine pu_newa C.1 C.2.1 (C.2.2.2.2.1 _ hw) rfl w.1 w.2.1 (a0 := (n.toNatClampNeg, .inl (fun _ => 0))) (fun cA => by rw [vp_cell_i, hdf]) hn rfl hcb (by omega) (by omega) hfc hd.1 (fun H1 hP1 hS1 hz1 => ?_)
  have hkd : mm_K (mm_na h kd n.toNatClampNeg) (mm_N h) = 11 ∨ mm_K (mm_na h kd n.toNatClampNeg) (mm_N h) = 12 := by rw [na_K]; rcases ht with ⟨rfl, -⟩ | ⟨rfl, -⟩ <;> simp
  have e3 : mm_I (mm_na h kd n.toNatClampNeg) (mm_N h) = fun _ => 0 := by show va_up _ _ _ _ = _; simp [va_up]
  have e2 : mm_e (gg_t G) (gg_b G) (mm_na h kd n.toNatClampNeg) (mm_N h) = .inl (gg_t G kd, n.toNatClampNeg, .inl (fun _ => 0)) := by rw [mm_e_int hkd, na_K, na_L, e3]
  rw [w.2.2, ← e2, mm_w_na] at hP1
  have K := q.2 p e R s m args below meth c Q H1 locs ls n0 z0 C ⟨hP1, hS1, by rw [hz1, w.2.2]; rfl⟩ hl (Nat.le_succ_of_le h1) (Nat.le_trans h2 (Nat.le_add_right _ _)) h3 h4 kk
  rw [← hd.2] at K
  have c1 : mm_N (mm_na h kd n.toNatClampNeg) - n0 = mm_N h - n0 + 1 := by show mm_N h + 1 - n0 = _; omega
  have c2 : mm_S (mm_na h kd n.toNatClampNeg) - z0 = mm_S h - z0 + n.toNatClampNeg := by show mm_S h + n.toNatClampNeg - z0 = _; omega
  rw [c1, c2] at K
  rw [w.2.2]
  exact K
theorem ev_newr {kd idx : Nat} {C0 : String} {n : Int32} (hd : IX (md_c M) pc (.anewarray idx) 3 nx) (ht : (kd = 13 ∧ C0 = RX2) ∨ (kd = 14 ∧ C0 = RX5) ∨ (kd = 15 ∧ C0 = RX7)) (hw : Cond.classLink (md_o M) idx C0 ∈ gtb) (ho : Cond.arrayOver (.object C0) ∈ lw_tbl) (hn : ¬ n < 0) (hs : n.toNatClampNeg ≤ 100000) (q : Ev G d M nx lc (.ref (mm_N h) :: st) (mm_na h kd n.toNatClampNeg) v h') : Ev G d M pc lc (.int n :: st) h v h' := by
  have m1 : mm_N h + 1 ≤ mm_N h' := q.1.1
  have m2 : mm_S h + n.toNatClampNeg ≤ mm_S h' := q.1.2
  refine ⟨⟨by omega, by omega⟩, fun p e R s m args below meth c Q H locs ls n0 z0 C w hl h1 h2 h3 h4 kk => ?_⟩
  have hfc : s.vm.findClass ("[" ++ (FieldType.object C0).toString) = some (gg_t G kd) := by
    rcases ht with ⟨rfl, rfl⟩ | ⟨rfl, rfl⟩ | ⟨rfl, rfl⟩
    · obtain ⟨_, _, _, _, _, h9⟩ := (C.2.2.2.2.2.2.1.2 2 _ rfl).2; exact h9
    · obtain ⟨_, _, _, _, _, h9⟩ := (C.2.2.2.2.2.2.1.2 3 _ rfl).2; exact h9
    · obtain ⟨_, _, _, _, _, h9⟩ := (C.2.2.2.2.2.2.1.2 4 _ rfl).2; exact h9
  have hkd : 13 ≤ kd := by rcases ht with ⟨rfl, -⟩ | ⟨rfl, -⟩ | ⟨rfl, -⟩ <;> omega
  refine pu_newr C.1 C.2.1 C.2.2.2.1 (C.2.2.2.2.1 _ hw) (C.2.2.2.2.2.1 _ ho rfl) w.1 w.2.1 hn rfl (by omega) (by omega) (by omega) hfc hd.1 (fun H1 hP1 hS1 hz1 => ?_)
  have e3 : mm_R (mm_na h kd n.toNatClampNeg) (mm_N h) = fun _ => none := by show va_up _ _ _ _ = _; simp [va_up]
  have e2 : mm_e (gg_t G) (gg_b G) (mm_na h kd n.toNatClampNeg) (mm_N h) = .inl (gg_t G kd, n.toNatClampNeg, .inr (.inr (.inr (.inr (fun _ => none))))) := by rw [mm_e_ref (by rw [na_K]; exact hkd), na_K, na_L, e3]; rfl
  rw [w.2.2, ← e2, mm_w_na] at hP1
  have K := q.2 p e R s m args below meth c Q H1 locs ls n0 z0 C ⟨hP1, hS1, by rw [hz1, w.2.2]; rfl⟩ hl (Nat.le_succ_of_le h1) (Nat.le_trans h2 (Nat.le_add_right _ _)) h3 h4 kk
  rw [← hd.2] at K
  have c1 : mm_N (mm_na h kd n.toNatClampNeg) - n0 = mm_N h - n0 + 1 := by show mm_N h + 1 - n0 = _; omega
  have c2 : mm_S (mm_na h kd n.toNatClampNeg) - z0 = mm_S h - z0 + n.toNatClampNeg := by show mm_S h + n.toNatClampNeg - z0 = _; omega
  rw [c1, c2] at K
  rw [w.2.2]
  exact K
end

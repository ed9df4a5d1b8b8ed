/-! ===== the small machine: words, classes, heaps, worlds ===== -/
def gtb : List Cond := lw_tbl.filter goodWord
theorem gt_mem {w : Cond} (h : w ∈ lw_tbl) (g : goodWord w = true) : w ∈ gtb := List.mem_filter.mpr ⟨h, g⟩
theorem gt_in {ws : List Cond} (h : ∀ w ∈ ws, w ∈ gtb) : GoodIn gtb ws := fun w hw => ⟨h w hw, good_of_word (List.mem_filter.mp (h w hw)).2⟩
theorem gt_all {ws : List Cond} (h : ws.all (fun w => decide (w ∈ lw_tbl) && goodWord w) = true) : ∀ w ∈ ws, w ∈ gtb := by
  intro w hw
  have h1 := List.all_eq_true.mp h w hw
  simp only [Bool.and_eq_true, decide_eq_true_eq] at h1
  exact gt_mem h1.1 h1.2
-- classes by their number
def mm_C : Nat → String | 0 => RX0 | 1 => RX1 | 2 => RX2 | 3 => RX3 | 4 => RX4 | 5 => RX5 | 6 => RX6 | 7 => RX7 | 8 => RX8 | 9 => RX9 | _ => RX10
def mm_T : Nat → u_T | 0 => TX0 | 1 => TX1 | 2 => TX2 | 3 => TX3 | 4 => TX4 | 5 => TX5 | 6 => TX6 | 7 => TX7 | 8 => TX8 | 9 => TX9 | _ => TX10
def mm_ty : Nat → Nat → FieldType | 0 => tyX0 | 1 => tyX1 | 2 => tyX2 | 3 => tyX3 | 4 => tyX4 | 5 => tyX5 | 6 => tyX6 | 7 => tyX7 | 8 => tyX8 | 9 => tyX9 | _ => tyX10
def mm_nf : Nat → Nat | 0 => 10 | 1 => 9 | 2 => 3 | 3 => 2 | 4 => 4 | 5 => 6 | 6 => 10 | 7 => 6 | 8 => 4 | 9 => 6 | _ => 39
def mm_isI : FieldType → Bool | .int => true | .boolean => true | _ => false
def mm_isR : FieldType → Bool | .object _ => true | .array _ => true | _ => false
def mm_ii (ci k : Nat) : Bool := mm_isI (mm_ty ci k)
theorem mm_lt {ci : Nat} (h : ci < 11) : ci = 0 ∨ ci = 1 ∨ ci = 2 ∨ ci = 3 ∨ ci = 4 ∨ ci = 5 ∨ ci = 6 ∨ ci = 7 ∨ ci = 8 ∨ ci = 9 ∨ ci = 10 := by omega
theorem mm_cl {ci : Nat} (h : ci < 11) : vwCl[ci]? = some (mm_C ci, mm_T ci, mm_nf ci) := by
  rcases mm_lt h with rfl | rfl | rfl | rfl | rfl | rfl | rfl | rfl | rfl | rfl | rfl <;> rfl
theorem mm_nm {ci : Nat} (h : ci < 11) : ∀ a, a < mm_nf ci → ∀ b, b < mm_nf ci → a ≠ b → (mm_T ci a).2.1 ≠ (mm_T ci b).2.1 := by
  rcases mm_lt h with rfl | rfl | rfl | rfl | rfl | rfl | rfl | rfl | rfl | rfl | rfl
  · exact nmX0
  · exact nmX1
  · exact nmX2
  · exact nmX3
  · exact nmX4
  · exact nmX5
  · exact nmX6
  · exact nmX7
  · exact nmX8
  · exact nmX9
  · exact nmX10
theorem mm_tyok {ci : Nat} (h : ci < 11) : ∀ k, k < mm_nf ci → parseFieldDescriptor (mm_T ci k).2.2.1 = some (mm_ty ci k) := by
  rcases mm_lt h with rfl | rfl | rfl | rfl | rfl | rfl | rfl | rfl | rfl | rfl | rfl
  · exact tyX0_ok
  · exact tyX1_ok
  · exact tyX2_ok
  · exact tyX3_ok
  · exact tyX4_ok
  · exact tyX5_ok
  · exact tyX6_ok
  · exact tyX7_ok
  · exact tyX8_ok
  · exact tyX9_ok
  · exact tyX10_ok
theorem mm_in0 : ∀ w ∈ u_ws RX0 TX0 10, w ∈ gtb := gt_all (by decide +kernel)
theorem mm_in1 : ∀ w ∈ u_ws RX1 TX1 9, w ∈ gtb := gt_all (by decide +kernel)
theorem mm_in2 : ∀ w ∈ u_ws RX2 TX2 3, w ∈ gtb := gt_all (by decide +kernel)
theorem mm_in3 : ∀ w ∈ u_ws RX3 TX3 2, w ∈ gtb := gt_all (by decide +kernel)
theorem mm_in4 : ∀ w ∈ u_ws RX4 TX4 4, w ∈ gtb := gt_all (by decide +kernel)
theorem mm_in5 : ∀ w ∈ u_ws RX5 TX5 6, w ∈ gtb := gt_all (by decide +kernel)
theorem mm_in6 : ∀ w ∈ u_ws RX6 TX6 10, w ∈ gtb := gt_all (by decide +kernel)
theorem mm_in7 : ∀ w ∈ u_ws RX7 TX7 6, w ∈ gtb := gt_all (by decide +kernel)
theorem mm_in8 : ∀ w ∈ u_ws RX8 TX8 4, w ∈ gtb := gt_all (by decide +kernel)
theorem mm_in9 : ∀ w ∈ u_ws RX9 TX9 6, w ∈ gtb := gt_all (by decide +kernel)
theorem mm_in10 : ∀ w ∈ u_ws RX10 TX10 39, w ∈ gtb := gt_all (by decide +kernel)
theorem mm_ws {ci : Nat} (h : ci < 11) : ∀ w ∈ u_ws (mm_C ci) (mm_T ci) (mm_nf ci), w ∈ gtb := by
  rcases mm_lt h with rfl | rfl | rfl | rfl | rfl | rfl | rfl | rfl | rfl | rfl | rfl
  · exact mm_in0
  · exact mm_in1
  · exact mm_in2
  · exact mm_in3
  · exact mm_in4
  · exact mm_in5
  · exact mm_in6
  · exact mm_in7
  · exact mm_in8
  · exact mm_in9
  · exact mm_in10
theorem mm_tyk {ci : Nat} (h : ci < 11) : ∀ k, k < mm_nf ci → mm_isI (mm_ty ci k) = true ∨ mm_isR (mm_ty ci k) = true := by
  rcases mm_lt h with rfl | rfl | rfl | rfl | rfl | rfl | rfl | rfl | rfl | rfl | rfl <;> decide +kernel
theorem mm_dv {ty : FieldType} (h : mm_isI ty = true ∨ mm_isR ty = true) : defaultValue ty = if mm_isI ty then .int 0 else .null := by
  cases ty <;> first | rfl | (simp [mm_isI, mm_isR] at h)
-- heaps: kind, length, ints, references, cells, slots
abbrev MH : Type := (Nat → Nat) × (Nat → Nat) × (Nat → Nat → Int32) × (Nat → Nat → Option Nat) × Nat × Nat
def mm_K (h : MH) : Nat → Nat := h.1
def mm_L (h : MH) : Nat → Nat := h.2.1
def mm_I (h : MH) : Nat → Nat → Int32 := h.2.2.1
def mm_R (h : MH) : Nat → Nat → Option Nat := h.2.2.2.1
def mm_N (h : MH) : Nat := h.2.2.2.2.1
def mm_S (h : MH) : Nat := h.2.2.2.2.2
def mm_si (h : MH) (a k : Nat) (x : Int32) : MH := (mm_K h, mm_L h, va_up (mm_I h) a (upd (mm_I h a) k x), mm_R h, mm_N h, mm_S h)
def mm_sr (h : MH) (a k : Nat) (x : Option Nat) : MH := (mm_K h, mm_L h, mm_I h, va_up (mm_R h) a (va_up (mm_R h a) k x), mm_N h, mm_S h)
def mm_no (h : MH) (ci : Nat) : MH := (va_up (mm_K h) (mm_N h) ci, mm_L h, va_up (mm_I h) (mm_N h) (fun _ => 0), va_up (mm_R h) (mm_N h) (fun _ => none), mm_N h + 1, mm_S h + mm_nf ci)
def mm_na (h : MH) (kd n : Nat) : MH := (va_up (mm_K h) (mm_N h) kd, va_up (mm_L h) (mm_N h) n, va_up (mm_I h) (mm_N h) (fun _ => 0), va_up (mm_R h) (mm_N h) (fun _ => none), mm_N h + 1, mm_S h + n)
def mm_v (bs : Nat) (h : MH) (a k : Nat) : Value := if mm_ii (mm_K h a) k then .int (mm_I h a k) else va_rf ((mm_R h a k).map (fun q => bs + q))
def mm_f (bs : Nat) (h : MH) (a : Nat) : List Value := (List.range (mm_nf (mm_K h a))).map (mm_v bs h a)
def mm_e (tc : Nat → ClassId) (bs : Nat) (h : MH) (a : Nat) : va_E :=
  if mm_K h a < 11 then .inr (mm_K h a, mm_f bs h a)
  else if mm_K h a < 13 then .inl (tc (mm_K h a), mm_L h a, .inl (mm_I h a))
  else .inl (tc (mm_K h a), mm_L h a, .inr (.inr (.inr (.inr (fun i => (mm_R h a i).map (fun q => bs + q))))))
def mm_w (tc : Nat → ClassId) (bs : Nat) (h : MH) : va_W := (List.range (mm_N h)).map (fun a => (bs + a, mm_e tc bs h a))
theorem mm_w_at {tc : Nat → ClassId} {bs : Nat} {h : MH} {a : Nat} (ha : a < mm_N h) : (mm_w tc bs h)[a]? = some (bs + a, mm_e tc bs h a) := by
  simp [mm_w, ha]
theorem mm_w_of {tc : Nat → ClassId} {bs : Nat} {h : MH} {a : Nat} {q : Nat × va_E} (hq : (mm_w tc bs h)[a]? = some q) : a < mm_N h ∧ q = (bs + a, mm_e tc bs h a) := by
  by_cases ha : a < mm_N h
  · exact ⟨ha, (Option.some.inj (hq.symm.trans (mm_w_at ha)))⟩
  · simp [mm_w, ha] at hq
theorem mm_w_D {tc : Nat → ClassId} {bs : Nat} {h : MH} : va_D (fun q => bs ≤ q) (mm_w tc bs h) := by
  refine ⟨fun i j p q hp hq hpq => ?_, fun k q hq => ?_⟩
  · obtain ⟨-, rfl⟩ := mm_w_of hp
    obtain ⟨-, rfl⟩ := mm_w_of hq
    have : bs + i = bs + j := hpq
    omega
  · obtain ⟨-, rfl⟩ := mm_w_of hq
    exact Nat.le_add_right bs k
theorem mm_w_set {tc : Nat → ClassId} {bs : Nat} {h h' : MH} {a : Nat} (hn : mm_N h' = mm_N h) (ho : ∀ b, b ≠ a → mm_e tc bs h' b = mm_e tc bs h b) (ha : a < mm_N h) : (mm_w tc bs h).set a (bs + a, mm_e tc bs h' a) = mm_w tc bs h' := by
  apply List.ext_getElem?
  intro i
  by_cases hi : i < mm_N h
  · by_cases e : i = a
    · subst e
      rw [List.getElem?_set_self (by simp [mm_w, hi]), mm_w_at (by omega)]
    · rw [List.getElem?_set_ne (Ne.symm e), mm_w_at hi, mm_w_at (by omega), ho i e]
  · rw [List.getElem?_eq_none (by simp [mm_w]; omega), List.getElem?_eq_none (by simp [mm_w]; omega)]
theorem mm_w_push {tc : Nat → ClassId} {bs : Nat} {h h' : MH} (hn : mm_N h' = mm_N h + 1) (ho : ∀ b, b < mm_N h → mm_e tc bs h' b = mm_e tc bs h b) : mm_w tc bs h ++ [(bs + mm_N h, mm_e tc bs h' (mm_N h))] = mm_w tc bs h' := by
  have e : mm_w tc bs h' = (List.range (mm_N h)).map (fun a => (bs + a, mm_e tc bs h' a)) ++ [(bs + mm_N h, mm_e tc bs h' (mm_N h))] := by
    simp [mm_w, hn, List.range_succ]
  rw [e]
  congr 1
  simp only [mm_w]
  apply List.map_congr_left
  intro a ha
  rw [ho a (List.mem_range.mp ha)]
theorem mm_e_obj {tc : Nat → ClassId} {bs : Nat} {h : MH} {a ci : Nat} (hk : mm_K h a = ci) (hc : ci < 11) : mm_e tc bs h a = .inr (ci, mm_f bs h a) := by
  subst hk; simp [mm_e, hc]
theorem mm_e_int {tc : Nat → ClassId} {bs : Nat} {h : MH} {a : Nat} (hk : mm_K h a = 11 ∨ mm_K h a = 12) : mm_e tc bs h a = .inl (tc (mm_K h a), mm_L h a, .inl (mm_I h a)) := by
  rcases hk with hk | hk <;> simp [mm_e, hk]
theorem mm_e_ref {tc : Nat → ClassId} {bs : Nat} {h : MH} {a : Nat} (hk : 13 ≤ mm_K h a) : mm_e tc bs h a = .inl (tc (mm_K h a), mm_L h a, .inr (.inr (.inr (.inr (fun i => (mm_R h a i).map (fun q => bs + q)))))) := by
  have h1 : ¬ mm_K h a < 11 := by omega
  have h2 : ¬ mm_K h a < 13 := by omega
  simp [mm_e, h1, h2]
theorem mm_e_cong {tc : Nat → ClassId} {bs : Nat} {h h' : MH} {a : Nat} (h1 : mm_K h' a = mm_K h a) (h2 : mm_L h' a = mm_L h a) (h3 : mm_I h' a = mm_I h a) (h4 : mm_R h' a = mm_R h a) : mm_e tc bs h' a = mm_e tc bs h a := by
  have hv : mm_v bs h' a = mm_v bs h a := by funext k; simp only [mm_v, h1, h3, h4]
  simp only [mm_e, mm_f, hv, h1, h2, h3, h4]
theorem mm_f_at {bs : Nat} {h : MH} {a k : Nat} (hk : k < mm_nf (mm_K h a)) : (mm_f bs h a)[k]? = some (mm_v bs h a k) := by simp [mm_f, hk]
theorem mm_f_len {bs : Nat} {h : MH} {a : Nat} : (mm_f bs h a).length = mm_nf (mm_K h a) := by simp [mm_f]
theorem mm_f_set {bs : Nat} {h h' : MH} {a k : Nat} {v : Value} (hK : mm_K h' a = mm_K h a) (hv : mm_v bs h' a k = v) (ho : ∀ j, j ≠ k → mm_v bs h' a j = mm_v bs h a j) : (mm_f bs h a).set k v = mm_f bs h' a := by
  apply List.ext_getElem?
  intro i
  by_cases hi : i < mm_nf (mm_K h a)
  · by_cases e : i = k
    · subst e
      rw [List.getElem?_set_self (by rw [mm_f_len]; exact hi), mm_f_at (by rw [hK]; exact hi), hv]
    · rw [List.getElem?_set_ne (Ne.symm e), mm_f_at hi, mm_f_at (by rw [hK]; exact hi), ho i e]
  · rw [List.getElem?_eq_none (by simp [mm_f]; omega), List.getElem?_eq_none (by simp [mm_f, hK]; omega)]
-- reads of written heaps
theorem si_K (h : MH) (a k : Nat) (x : Int32) : mm_K (mm_si h a k x) = mm_K h := rfl
theorem si_L (h : MH) (a k : Nat) (x : Int32) : mm_L (mm_si h a k x) = mm_L h := rfl
theorem si_R (h : MH) (a k : Nat) (x : Int32) : mm_R (mm_si h a k x) = mm_R h := rfl
theorem si_N (h : MH) (a k : Nat) (x : Int32) : mm_N (mm_si h a k x) = mm_N h := rfl
theorem si_S (h : MH) (a k : Nat) (x : Int32) : mm_S (mm_si h a k x) = mm_S h := rfl
theorem si_I (h : MH) (a k : Nat) (x : Int32) (b j : Nat) : mm_I (mm_si h a k x) b j = if b = a ∧ j = k then x else mm_I h b j := by
  show va_up (mm_I h) a (upd (mm_I h a) k x) b j = _
  by_cases e : b = a
  · subst e; by_cases e2 : j = k <;> simp [va_up, upd, e2]
  · simp [va_up, e]
theorem sr_K (h : MH) (a k : Nat) (x : Option Nat) : mm_K (mm_sr h a k x) = mm_K h := rfl
theorem sr_L (h : MH) (a k : Nat) (x : Option Nat) : mm_L (mm_sr h a k x) = mm_L h := rfl
theorem sr_I (h : MH) (a k : Nat) (x : Option Nat) : mm_I (mm_sr h a k x) = mm_I h := rfl
theorem sr_N (h : MH) (a k : Nat) (x : Option Nat) : mm_N (mm_sr h a k x) = mm_N h := rfl
theorem sr_S (h : MH) (a k : Nat) (x : Option Nat) : mm_S (mm_sr h a k x) = mm_S h := rfl
theorem sr_R (h : MH) (a k : Nat) (x : Option Nat) (b j : Nat) : mm_R (mm_sr h a k x) b j = if b = a ∧ j = k then x else mm_R h b j := by
  show va_up (mm_R h) a (va_up (mm_R h a) k x) b j = _
  by_cases e : b = a
  · subst e; by_cases e2 : j = k <;> simp [va_up, e2]
  · simp [va_up, e]
theorem mm_si_e {tc : Nat → ClassId} {bs : Nat} {h : MH} {a k : Nat} {x : Int32} {b : Nat} (hb : b ≠ a) : mm_e tc bs (mm_si h a k x) b = mm_e tc bs h b :=
  mm_e_cong rfl rfl (by show va_up (mm_I h) a _ b = _; simp [va_up, hb]) rfl
theorem mm_sr_e {tc : Nat → ClassId} {bs : Nat} {h : MH} {a k : Nat} {x : Option Nat} {b : Nat} (hb : b ≠ a) : mm_e tc bs (mm_sr h a k x) b = mm_e tc bs h b :=
  mm_e_cong rfl rfl rfl (by show va_up (mm_R h) a _ b = _; simp [va_up, hb])
theorem mm_no_e {tc : Nat → ClassId} {bs : Nat} {h : MH} {ci b : Nat} (hb : b < mm_N h) : mm_e tc bs (mm_no h ci) b = mm_e tc bs h b := by
  have hb : b ≠ mm_N h := by omega
  exact mm_e_cong (by show va_up (mm_K h) _ _ b = _; simp [va_up, hb]) rfl (by show va_up (mm_I h) _ _ b = _; simp [va_up, hb]) (by show va_up (mm_R h) _ _ b = _; simp [va_up, hb])
theorem mm_na_e {tc : Nat → ClassId} {bs : Nat} {h : MH} {kd n b : Nat} (hb : b < mm_N h) : mm_e tc bs (mm_na h kd n) b = mm_e tc bs h b := by
  have hb : b ≠ mm_N h := by omega
  exact mm_e_cong (by show va_up (mm_K h) _ _ b = _; simp [va_up, hb]) (by show va_up (mm_L h) _ _ b = _; simp [va_up, hb]) (by show va_up (mm_I h) _ _ b = _; simp [va_up, hb]) (by show va_up (mm_R h) _ _ b = _; simp [va_up, hb])

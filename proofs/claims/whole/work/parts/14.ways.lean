/-! ===== ways ===== -/
theorem nx_bt {m s : Nat} (hm : m < 128) (hs : s < 7) : (nI m >>> (nI s &&& 31)) &&& 1 = nI (bit m s) := nx_bit hm hs
def mask (p : List Nat) : Nat := p.foldl (fun m s => m ||| 2 ^ s) 0
theorem bit_or {m s t : Nat} (hm : m < 128) (hs : s < 7) (ht : t < 7) : (m ||| 2 ^ s < 128) ∧ (bit (m ||| 2 ^ s) t = 0 ↔ bit m t = 0 ∧ t ≠ s) := by
  have h : ∀ m, m < 128 → ∀ s, s < 7 → ∀ t, t < 7 → ((m ||| 2 ^ s < 128) ∧ (bit (m ||| 2 ^ s) t = 0 ↔ bit m t = 0 ∧ t ≠ s)) := by decide +kernel
  exact h m hm s hs t ht
theorem mask_from : ∀ (p : List Nat) (m0 : Nat), m0 < 128 → (∀ s ∈ p, s < 7) → ∀ t, t < 7 → (p.foldl (fun m s => m ||| 2 ^ s) m0 < 128) ∧ (bit (p.foldl (fun m s => m ||| 2 ^ s) m0) t = 0 ↔ bit m0 t = 0 ∧ t ∉ p)
  | [], m0, hm, _, t, ht => ⟨hm, by simp⟩
  | s :: p, m0, hm, hp, t, ht => by
    have h1 := bit_or hm (hp s List.mem_cons_self) ht
    have ih := mask_from p (m0 ||| 2 ^ s) h1.1 (fun x hx => hp x (List.mem_cons_of_mem _ hx)) t ht
    simp only [List.foldl_cons]
    refine ⟨ih.1, ih.2.trans ?_⟩
    rw [h1.2, List.mem_cons]
    constructor
    · rintro ⟨⟨a, b⟩, c⟩; exact ⟨a, fun q => q.elim b c⟩
    · rintro ⟨a, b⟩; exact ⟨⟨a, fun q => b (Or.inl q)⟩, fun q => b (Or.inr q)⟩
theorem mask_lt {p : List Nat} (hp : ∀ s ∈ p, s < 7) : mask p < 128 := (mask_from p 0 (by decide) hp 0 (by decide)).1
theorem mask_bit {p : List Nat} (hp : ∀ s ∈ p, s < 7) {t : Nat} (ht : t < 7) : bit (mask p) t = 0 ↔ t ∉ p := by
  have h := (mask_from p 0 (by decide) hp t ht).2
  have h0 : bit 0 t = 0 := by simp [bit]
  unfold mask; rw [h]; simp [h0]
theorem mask_app (p : List Nat) (s : Nat) : mask (p ++ [s]) = mask p ||| 2 ^ s := by simp [mask, List.foldl_append]
def WayIs (h : MH) (w : Nat) (p : List Nat) (e : Int32) : Prop := mm_I h w 1 = nI p.length ∧ mm_I h w 2 = nI (mask p) ∧ mm_I h w 3 = e ∧ ∀ (i s : Nat), p[i]? = some s → mm_I h (w + 1) i = nI s
def Two (w a : Nat) : Prop := a = w ∨ a = w + 1
theorem startAt_eq {h : MH} {w s : Nat} (hG : Gr h) (hw : IsW w) (hs : s < 7) : ∃ h', f_X8_startAt h w (nI s) = some h' ∧ Only h h' (Two w) ∧ WayIs h' w [s] (-1) := by
  obtain ⟨w1, w2, w3, w4, w5, w6⟩ := hw
  refine ⟨mm_si (mm_si (mm_si (mm_si h (w + 1) 0 (nI s)) w 1 1) w 2 (nI (2 ^ s))) w 3 (-1), ?_, ?_, ?_⟩
  · unfold f_X8_startAt
    rw [gK_g hG w1 w2, gR_g hG w1 w2 w3, bS, sI_lit, sI_g hG w4 w5 (by rw [w6]; decide), bS, pI_g hG.si w1 w2, bS, nx_shl hs, pI_g hG.si.si w1 w2, bS, pI_g hG.si.si.si w1 w2, bS]
  · exact (((Only.si (Or.inr rfl)).tr (Only.si (Or.inl rfl))).tr (Only.si (Or.inl rfl))).tr (Only.si (Or.inl rfl))
  · refine ⟨?_, ?_, ?_, ?_⟩
    · rw [si_o2 (by decide), si_o2 (by decide), si_s]; rfl
    · rw [si_o2 (by decide), si_s]; simp [mask]
    · rw [si_s]
    · intro i t hi
      have hi0 : i = 0 ∧ s = t := by
        cases i with
        | zero => simp at hi; exact ⟨rfl, hi⟩
        | succ i => simp at hi
      obtain ⟨rfl, rfl⟩ := hi0
      rw [si_o (by omega), si_o (by omega), si_o (by omega), si_s]
def goN (q : List Nat) (t : Nat) : List Nat × Int32 := if 100 ≤ t then (q, nI (t - 100)) else if t ∈ q ∨ 7 ≤ q.length then (q, 12) else (q ++ [t], -1)
theorem goOn_eq {h : MH} {w t : Nat} {q : List Nat} (hG : Gr h) (hw : IsW w) (hq : WayIs h w q (-1)) (hl : q.length ≤ 7) (hs : ∀ s ∈ q, s < 7) (ht : t < 7 ∨ (100 ≤ t ∧ t < 112)) :
    ∃ h', f_X8_goOn h w (nI t) = some h' ∧ Only h h' (Two w) ∧ WayIs h' w (goN q t).1 (goN q t).2 := by
  obtain ⟨w1, w2, w3, w4, w5, w6⟩ := hw
  obtain ⟨q1, q2, q3, q4⟩ := hq
  have keep : ∀ x, WayIs (mm_si h w 3 x) w q x := fun x => ⟨by rw [si_o2 (by decide)]; exact q1, by rw [si_o2 (by decide)]; exact q2, by rw [si_s], fun i s hi => by rw [si_o (by omega)]; exact q4 i s hi⟩
  unfold f_X8_goOn
  rw [gK_g hG w1 w2, it_lt1 (by omega) (by decide)]
  by_cases c : t < 100
  · have ht7 : t < 7 := by omega
    have hbl := bit_lt (mask q) t
    rw [if_pos c, gI_g hG w1 w2, bS, q2, nx_bt (mask_lt hs) ht7, it_eq1 (by omega) (by decide)]
    have hb := mask_bit hs ht7
    by_cases cb : bit (mask q) t = 0
    · rw [if_pos cb, gI_g hG w1 w2, bS, q1, it_lt1 (by omega) (by decide)]
      have hnin := hb.mp cb
      by_cases c7 : q.length < 7
      · have eg : goN q t = (q ++ [t], -1) := by unfold goN; rw [if_neg (by omega), if_neg (fun z => z.elim hnin (fun z => by omega))]
        rw [if_pos c7, gR_g hG w1 w2 w3, bS, bS, sI_g hG w4 w5 (by rw [w6]; exact c7), bS, gI_g hG.si w1 w2, bS, si_o (by omega), q1, cl_add, pI_g hG.si w1 w2, bS, gI_g hG.si.si w1 w2, bS, si_o2 (by decide), si_o (by omega), q2, nx_shl ht7, nx_or, pI_g hG.si.si w1 w2, bS, eg]
        refine ⟨_, rfl, ((Only.si (Or.inr rfl)).tr (Only.si (Or.inl rfl))).tr (Only.si (Or.inl rfl)), ?_, ?_, ?_, ?_⟩
        · rw [si_o2 (by decide), si_s]; simp
        · rw [si_s, mask_app]
        · rw [si_o2 (by decide), si_o2 (by decide), si_o (by omega)]; exact q3
        · intro i s hi
          rw [si_o (by omega), si_o (by omega)]
          by_cases ei : i = q.length
          · subst ei
            rw [List.getElem?_append_right (Nat.le_refl _)] at hi
            simp at hi
            rw [si_s, hi]
          · rw [si_o2 ei]
            refine q4 i s ?_
            have hlt : i < (q ++ [t]).length := (List.getElem?_eq_some_iff.mp hi).1
            simp at hlt
            rw [List.getElem?_append_left (by omega)] at hi
            exact hi
      · have eg : goN q t = (q, 12) := by unfold goN; rw [if_neg (by omega), if_pos (Or.inr (by omega))]
        rw [if_neg c7, pI_g hG w1 w2, bS, eg]
        exact ⟨_, rfl, Only.si (Or.inl rfl), keep 12⟩
    · have eg : goN q t = (q, 12) := by unfold goN; rw [if_neg (by omega), if_pos (Or.inl (Decidable.not_not.mp (fun z => cb (hb.mpr z))))]
      rw [if_neg cb, pI_g hG w1 w2, bS, eg]
      exact ⟨_, rfl, Only.si (Or.inl rfl), keep 12⟩
  · have eg : goN q t = (q, nI (t - 100)) := by unfold goN; rw [if_pos (by omega)]
    rw [if_neg c, cl_sub (by omega), pI_g hG w1 w2, bS, eg]
    exact ⟨_, rfl, Only.si (Or.inl rfl), keep _⟩
theorem last_eq {h : MH} {w s : Nat} {p : List Nat} {e : Int32} (hG : Gr h) (hw : IsW w) (hq : WayIs h w (p ++ [s]) e) (hl : p.length < 7) : f_X8_last h w = some (nI s) := by
  obtain ⟨w1, w2, w3, w4, w5, w6⟩ := hw
  obtain ⟨q1, q2, q3, q4⟩ := hq
  have e1 : mm_I h w 1 = nI (p.length + 1) := by rw [q1]; simp
  unfold f_X8_last
  rw [gK_g hG w1 w2, gI_g hG w1 w2, bS, e1, it_le1 (by omega) (by decide), if_neg (by omega), gR_g hG w1 w2 w3, bS, bS, cl_sub (by omega), aI_g hG w4 w5 (by rw [w6]; omega), bS, q4 (p.length + 1 - 1) s (by simp)]
theorem end_eq {h : MH} {w : Nat} (hG : Gr h) (hw : IsW w) : f_X8_end h w = some (mm_I h w 3) := by
  unfold f_X8_end
  rw [gK_g hG hw.1 hw.2.1, gI_g hG hw.1 hw.2.1, bS]
/-- a way's cell is apart from the scene -/
def WaySt (w : Nat) : Prop := IsW w ∧ 91 < w
theorem RX.way {h h' : MH} {A : SA} {w : Nat} (hw : WaySt w) (o : Only h h' (Two w)) (R : RX h A) : RX h' A := RX.only o (fun a ha => by have := hw.1.2.2.2.1; have := hw.2; rcases ha with rfl | rfl <;> omega) R
theorem trace_L {A : SA} (hA : OkA A) {mix m : Nat} (hx : mix < 128) (hm : m < 16) {w : Nat} (hw : WaySt w) (k : MH → Option MH) :
    ∀ (n f : Nat) (h : MH) (p : List Nat) (s : Nat), n + p.length = 7 → n < f → Gr h → RX h A → WayIs h w (p ++ [s]) (-1) → (∀ t ∈ p ++ [s], t < 7) → 1 ≤ n →
      ∃ h', f_X1_trace_L12 k 1 w (nI mix) (nI m) f h (nI p.length) = k h' ∧ Only h h' (Two w) ∧ WayIs h' w (wkS (goS A mix m) n p s).1 (nI (wkS (goS A mix m) n p s).2) := by
  intro n
  induction n with
  | zero => intro f h p s _ _ _ _ _ _ h1; omega
  | succ n ih =>
    intro f h p s hn hf hG R hq hs _
    obtain ⟨f, rfl⟩ : ∃ g, f = g + 1 := ⟨f - 1, by omega⟩
    have hs7 : s < 7 := hs s (by simp)
    have hgo := goS_lt hA (mix := mix) (m := m) hs7
    obtain ⟨h1, e1, o1, q1⟩ := goOn_eq hG hw.1 hq (by simp; omega) hs hgo
    rw [f_X1_trace_L12, it_le2 (by omega) (by decide), if_neg (by omega), end_eq hG hw.1, bS, hq.2.2.1, if_pos rfl, last_eq hG hw.1 hq (by omega), bS, whereTo_eq hG hA R hs7 hx hm, bS, e1, bS, cl_add]
    have hG1 := o1.Gr hG
    unfold wkS
    by_cases c : 100 ≤ goS A mix m s
    · have eg : goN (p ++ [s]) (goS A mix m s) = (p ++ [s], nI (goS A mix m s - 100)) := by unfold goN; rw [if_pos c]
      rw [eg] at q1
      rw [if_pos c]
      refine ⟨h1, ?_, o1, q1⟩
      obtain ⟨f, rfl⟩ : ∃ g, f = g + 1 := ⟨f - 1, by omega⟩
      rw [f_X1_trace_L12]
      split
      · rfl
      · rw [end_eq hG1 hw.1, bS, q1.2.2.1, it_m1 (by omega)]
    · rw [if_neg c]
      by_cases c2 : goS A mix m s ∈ p ++ [s] ∨ n = 0
      · have c3 : goS A mix m s ∈ p ++ [s] ∨ 7 ≤ (p ++ [s]).length := c2.elim Or.inl (fun z => Or.inr (by simp; omega))
        have eg : goN (p ++ [s]) (goS A mix m s) = (p ++ [s], 12) := by unfold goN; rw [if_neg c, if_pos c3]
        rw [eg] at q1
        rw [if_pos c2]
        refine ⟨h1, ?_, o1, q1⟩
        obtain ⟨f, rfl⟩ : ∃ g, f = g + 1 := ⟨f - 1, by omega⟩
        rw [f_X1_trace_L12]
        split
        · rfl
        · rw [end_eq hG1 hw.1, bS, q1.2.2.1, if_neg (show ¬ (12 : Int32) = -1 by decide)]
      · have c3 : ¬ (goS A mix m s ∈ p ++ [s] ∨ 7 ≤ (p ++ [s]).length) := fun z => c2 (z.elim Or.inl (fun z => Or.inr (by simp at z; omega)))
        have eg : goN (p ++ [s]) (goS A mix m s) = (p ++ [s] ++ [goS A mix m s], -1) := by unfold goN; rw [if_neg c, if_neg c3]
        rw [eg] at q1
        rw [if_neg c2]
        have hlen : (p ++ [s]).length = p.length + 1 := by simp
        obtain ⟨h2, e2, o2, q2⟩ := ih f h1 (p ++ [s]) (goS A mix m s) (by rw [hlen]; omega) (by omega) hG1 (RX.way hw o1 R) q1 (fun t ht => (List.mem_append.mp ht).elim (hs t) (fun z => by simp at z; omega)) (by omega)
        rw [hlen] at e2
        exact ⟨h2, e2, o1.tr o2, q2⟩
theorem switchOf_eq {h : MH} {A : SA} (hG : Gr h) (hA : OkA A) (R : RX h A) {x : Nat} (hx : x < sh A) : f_X1_switchOf h 1 (nI x) = some (nI (sq A x / 4)) := by
  have h6 := hA.2.2.1
  unfold f_X1_switchOf
  rw [gK_g hG (by decide) (by decide), it_neg (by omega), gI_g hG (by decide) (by decide), bS, R.1.2.1, in_le (by omega) (by omega), if_neg (by omega), gR_g hG (by decide) (by decide) (show gr 1 1 = some 3 from rfl), bS, aI_g hG (by decide) (by decide) (show _ < 6 by omega), bS, R.1.2.2.2 x hx]
theorem trace_eq {h : MH} {A : SA} (hG : Gr h) (hA : OkA A) (R : RX h A) {w mix x m : Nat} (hw : WaySt w) (hx : x < sh A) (hmx : mix < 128) (hm : m < 16) :
    ∃ h', f_X1_trace h 1 w (nI mix) (nI x) (nI m) = some h' ∧ Only h h' (Two w) ∧ WayIs h' w (wayS A mix x m).1 (nI (wayS A mix x m).2) := by
  have hq := hA.2.2.2.2.1 x hx
  obtain ⟨h1, e1, o1, q1⟩ := startAt_eq hG hw.1 (show sq A x / 4 < 7 by omega)
  obtain ⟨h2, e2, o2, q2⟩ := trace_L hA hmx hm hw (fun he48 => some he48) 7 fuel h1 [] (sq A x / 4) rfl (by decide) (o1.Gr hG) (RX.way hw o1 R) q1 (fun t ht => by simp at ht; omega) (by decide)
  refine ⟨h2, ?_, o1.tr o2, q2⟩
  unfold f_X1_trace
  rw [gK_g hG (by decide) (by decide), switchOf_eq hG hA R hx, bS, e1, bS]
  exact e2

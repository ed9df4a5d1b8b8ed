/-! ===== the small machine's steps as functions that may fail, and their rows ===== -/
def gI (h : MH) (a ci k : Nat) : Option Int32 := if a < mm_N h ∧ mm_K h a = ci then some (mm_I h a k) else none
def gR (h : MH) (a ci k : Nat) : Option Nat := if a < mm_N h ∧ mm_K h a = ci then mm_R h a k else none
def pI (h : MH) (a ci k : Nat) (x : Int32) : Option MH := if a < mm_N h ∧ mm_K h a = ci then some (mm_si h a k x) else none
def pZ (h : MH) (a ci k : Nat) (x : Int32) : Option MH := if (x = 0 ∨ x = 1) ∧ a < mm_N h ∧ mm_K h a = ci then some (mm_si h a k x) else none
def pR (h : MH) (a ci k b : Nat) : Option MH := if a < mm_N h ∧ mm_K h a = ci then some (mm_sr h a k (some b)) else none
def inb (i : Int32) (n : Nat) : Prop := ¬ (i < 0 ∨ n ≤ i.toNatClampNeg)
def aI (h : MH) (a : Nat) (i : Int32) : Option Int32 := if (a < mm_N h ∧ mm_K h a = 11) ∧ ¬ (i < 0 ∨ mm_L h a ≤ i.toNatClampNeg) then some (mm_I h a i.toNatClampNeg) else none
def aZ (h : MH) (a : Nat) (i : Int32) : Option Int32 := if (a < mm_N h ∧ mm_K h a = 12) ∧ ¬ (i < 0 ∨ mm_L h a ≤ i.toNatClampNeg) then some (mm_I h a i.toNatClampNeg) else none
def aR (h : MH) (a : Nat) (i : Int32) : Option Nat := if (a < mm_N h ∧ (mm_K h a = 13 ∨ mm_K h a = 14 ∨ mm_K h a = 15)) ∧ ¬ (i < 0 ∨ mm_L h a ≤ i.toNatClampNeg) then mm_R h a i.toNatClampNeg else none
def sI (h : MH) (a : Nat) (i x : Int32) : Option MH := if (a < mm_N h ∧ mm_K h a = 11) ∧ ¬ (i < 0 ∨ mm_L h a ≤ i.toNatClampNeg) then some (mm_si h a i.toNatClampNeg x) else none
def sZ (h : MH) (a : Nat) (i x : Int32) : Option MH := if (x = 0 ∨ x = 1) ∧ (a < mm_N h ∧ mm_K h a = 12) ∧ ¬ (i < 0 ∨ mm_L h a ≤ i.toNatClampNeg) then some (mm_si h a i.toNatClampNeg x) else none
def sR (h : MH) (a : Nat) (i : Int32) (b : Nat) : Option MH := if (a < mm_N h ∧ b < mm_N h ∧ ((mm_K h a = 13 ∧ mm_K h b = 2) ∨ (mm_K h a = 14 ∧ mm_K h b = 5) ∨ (mm_K h a = 15 ∧ mm_K h b = 7))) ∧ ¬ (i < 0 ∨ mm_L h a ≤ i.toNatClampNeg) then some (mm_sr h a i.toNatClampNeg (some b)) else none
def aL (h : MH) (a : Nat) : Option Int32 := if a < mm_N h ∧ mm_K h a = 11 then some (Int32.ofNat (mm_L h a)) else none
def sX (L : Nat) (xs : Nat → Int32) (i : Int32) : Option Int32 := if ¬ (i < 0 ∨ L ≤ i.toNatClampNeg) then some (xs i.toNatClampNeg) else none
def zR (x : Int32) : Option Int32 := if x = 0 ∨ x = 1 then some x else none
def gK {α : Type} (h : MH) (a ci : Nat) (x : Option α) : Option α := if a < mm_N h ∧ mm_K h a = ci then x else none
theorem gK_of {α : Type} {h : MH} {a ci : Nat} {x : Option α} {r : α} (e : gK h a ci x = some r) : (a < mm_N h ∧ mm_K h a = ci) ∧ x = some r := by
  unfold gK at e
  split at e
  · rename_i q; exact ⟨q, e⟩
  · cases e
theorem ob {α β : Type} {x : Option α} {f : α → Option β} {r : β} (e : x.bind f = some r) : ∃ a, x = some a ∧ f a = some r := Option.bind_eq_some_iff.mp e
def fuel : Nat := 1000
theorem zR_of {x r : Int32} (e : zR x = some r) : (x = 0 ∨ x = 1) ∧ x = r := by
  unfold zR at e
  split at e
  · rename_i q; cases e; exact ⟨q, rfl⟩
  · cases e
theorem nr_z {x : Int32} (h : x = 0 ∨ x = 1) : narrow .boolean (.int x) = .int x := by rcases h with rfl | rfl <;> decide
section
variable {G : GG} {d : Nat} {M : MD} {pc nx : Nat} {lc : List (Option Value)} {st : List Value} {h : MH} {v : Option Value} {h' : MH}
theorem ev_gI {ci k a idx : Nat} {x : Int32} (hd : IX (md_c M) pc (.getfield idx) 3 nx) (hf : FL (md_o M) idx ci k) (hi : mm_ii ci k = true) (e : gI h a ci k = some x) (q : Ev G d M nx lc (.int x :: st) h v h') : Ev G d M pc lc (.ref a :: st) h v h' := by
  unfold gI at e
  split at e
  · rename_i c; cases e; exact ev_getI hd hf hi c.1 c.2 q
  · cases e
theorem ev_gR {ci k a b idx : Nat} (hd : IX (md_c M) pc (.getfield idx) 3 nx) (hf : FL (md_o M) idx ci k) (hi : mm_ii ci k = false) (e : gR h a ci k = some b) (q : Ev G d M nx lc (.ref b :: st) h v h') : Ev G d M pc lc (.ref a :: st) h v h' := by
  unfold gR at e
  split at e
  · rename_i c; exact ev_getR hd hf hi c.1 c.2 e q
  · cases e
theorem ev_pI {ci k a idx : Nat} {x : Int32} {h2 : MH} (hd : IX (md_c M) pc (.putfield idx) 3 nx) (hf : FP M idx ci k) (hi : mm_ty ci k = .int) (e : pI h a ci k x = some h2) (q : Ev G d M nx lc st h2 v h') : Ev G d M pc lc (.int x :: .ref a :: st) h v h' := by
  unfold pI at e
  split at e
  · rename_i c; cases e; exact ev_putI hd hf (Or.inl hi) c.1 c.2 q
  · cases e
theorem ev_pZ {ci k a idx : Nat} {x : Int32} {h2 : MH} (hd : IX (md_c M) pc (.putfield idx) 3 nx) (hf : FP M idx ci k) (hi : mm_ty ci k = .boolean) (e : pZ h a ci k x = some h2) (q : Ev G d M nx lc st h2 v h') : Ev G d M pc lc (.int x :: .ref a :: st) h v h' := by
  unfold pZ at e
  split at e
  · rename_i c; cases e; exact ev_putI hd hf (Or.inr ⟨hi, c.1⟩) c.2.1 c.2.2 q
  · cases e
theorem ev_pR {ci k a b idx : Nat} {h2 : MH} (hd : IX (md_c M) pc (.putfield idx) 3 nx) (hf : FP M idx ci k) (hi : mm_ii ci k = false) (e : pR h a ci k b = some h2) (q : Ev G d M nx lc st h2 v h') : Ev G d M pc lc (.ref b :: .ref a :: st) h v h' := by
  unfold pR at e
  split at e
  · rename_i c; cases e; exact ev_putR hd hf hi c.1 c.2 q
  · cases e
theorem ev_aI {a : Nat} {i x : Int32} (hd : IX (md_c M) pc .iaload 1 nx) (e : aI h a i = some x) (q : Ev G d M nx lc (.int x :: st) h v h') : Ev G d M pc lc (.int i :: .ref a :: st) h v h' := by
  unfold aI at e
  split at e
  · rename_i c; cases e; exact ev_iald hd c.1.1 c.1.2 c.2 q
  · cases e
theorem ev_aZ {a : Nat} {i x : Int32} (hd : IX (md_c M) pc .baload 1 nx) (e : aZ h a i = some x) (q : Ev G d M nx lc (.int x :: st) h v h') : Ev G d M pc lc (.int i :: .ref a :: st) h v h' := by
  unfold aZ at e
  split at e
  · rename_i c; cases e; exact ev_bald hd c.1.1 c.1.2 c.2 q
  · cases e
theorem ev_aR {a b : Nat} {i : Int32} (hd : IX (md_c M) pc .aaload 1 nx) (e : aR h a i = some b) (q : Ev G d M nx lc (.ref b :: st) h v h') : Ev G d M pc lc (.int i :: .ref a :: st) h v h' := by
  unfold aR at e
  split at e
  · rename_i c; exact ev_aald hd c.1.1 c.1.2 c.2 e q
  · cases e
theorem ev_sI {a : Nat} {i x : Int32} {h2 : MH} (hd : IX (md_c M) pc .iastore 1 nx) (e : sI h a i x = some h2) (q : Ev G d M nx lc st h2 v h') : Ev G d M pc lc (.int x :: .int i :: .ref a :: st) h v h' := by
  unfold sI at e
  split at e
  · rename_i c; cases e; exact ev_iast hd c.1.1 c.1.2 c.2 q
  · cases e
theorem ev_sZ {a : Nat} {i x : Int32} {h2 : MH} (hd : IX (md_c M) pc .bastore 1 nx) (e : sZ h a i x = some h2) (q : Ev G d M nx lc st h2 v h') : Ev G d M pc lc (.int x :: .int i :: .ref a :: st) h v h' := by
  unfold sZ at e
  split at e
  · rename_i c; cases e; exact ev_bast hd c.1 c.2.1.1 c.2.1.2 c.2.2 q
  · cases e
theorem ev_sR {a b : Nat} {i : Int32} {h2 : MH} (hd : IX (md_c M) pc .aastore 1 nx) (e : sR h a i b = some h2) (q : Ev G d M nx lc st h2 v h') : Ev G d M pc lc (.ref b :: .int i :: .ref a :: st) h v h' := by
  unfold sR at e
  split at e
  · rename_i c; cases e; exact ev_aast hd c.1.1 c.1.2.1 c.1.2.2 c.2 q
  · cases e
theorem ev_aL {a : Nat} {x : Int32} (hd : IX (md_c M) pc .arraylength 1 nx) (e : aL h a = some x) (q : Ev G d M nx lc (.int x :: st) h v h') : Ev G d M pc lc (.ref a :: st) h v h' := by
  unfold aL at e
  split at e
  · rename_i c; cases e; exact ev_alen hd c.1 c.2 q
  · cases e
theorem ev_sX {z : Int64} {i x : Int32} (hM : md_o M = RL) (hd : IX (md_c M) pc .iaload 1 nx) (e : sX (gg_L G) (gg_x G) i = some x) (q : Ev G d M nx lc (.int x :: st) h v h') : Ev G d M pc lc (.int i :: .long z :: st) h v h' := by
  unfold sX at e
  split at e
  · rename_i c; cases e; exact ev_sld hM hd c q
  · cases e
theorem ev_nA {kd : Nat} {at_ : ArrayType} {n : Int32} {N : Nat} (hd : IX (md_c M) pc (.newarray at_) 2 nx) (ht : (kd = 11 ∧ newarray.typeOf at_ = .int) ∨ (kd = 12 ∧ newarray.typeOf at_ = .boolean)) (hw : Cond.arrayClass (newarray.typeOf at_) ∈ gtb) (hn : ¬ n < 0) (hN : n.toNatClampNeg = N) (hs : N ≤ 100000) (q : Ev G d M nx lc (.ref (mm_N h) :: st) (mm_na h kd N) v h') : Ev G d M pc lc (.int n :: st) h v h' := by
  subst hN; exact ev_newa hd ht hw hn hs q
theorem ev_nAR {kd idx : Nat} {C0 : String} {n : Int32} {N : Nat} (hd : IX (md_c M) pc (.anewarray idx) 3 nx) (ht : (kd = 13 ∧ C0 = RX2) ∨ (kd = 14 ∧ C0 = RX5) ∨ (kd = 15 ∧ C0 = RX7)) (hw : Cond.classLink (md_o M) idx C0 ∈ gtb) (ho : Cond.arrayOver (.object C0) ∈ lw_tbl) (hn : ¬ n < 0) (hN : n.toNatClampNeg = N) (hs : N ≤ 100000) (q : Ev G d M nx lc (.ref (mm_N h) :: st) (mm_na h kd N) v h') : Ev G d M pc lc (.int n :: st) h v h' := by
  subst hN; exact ev_newr hd ht hw ho hn hs q
theorem ts_out {x : Int32} {n : Nat} (hn : n < 1000) (hc : ∀ k : Nat, k ≤ n → x ≠ Int32.ofNat k) : x.toInt < 0 ∨ (n : Int) < x.toInt := by
  by_cases h0 : x.toInt < 0
  · exact Or.inl h0
  · by_cases h1 : (n : Int) < x.toInt
    · exact Or.inr h1
    · exfalso
      have hk := hc x.toInt.toNat (by omega)
      apply hk
      apply Int32.toInt_inj.mp
      rw [Int32.toInt_ofNat_of_lt (by omega)]
      omega
theorem ev_ts {lo hi dflt : Int} {offs : Array Int} {len : Nat} {x : Int32} {tg : Nat} (kx : Int32) (off : Int) (hd : IX (md_c M) pc (.tableswitch dflt lo hi offs) len nx) (c : x = kx) (hq : ¬ kx.toInt < lo ∧ ¬ hi < kx.toInt ∧ offs[(kx.toInt - lo).toNat]? = some off ∧ (pc : Int) + off = (tg : Int)) (k : Ev G d M tg lc st h v h') : Ev G d M pc lc (.int x :: st) h v h' := by
  subst c
  exact ev_tsIn hd hq.1 hq.2.1 hq.2.2.1 hq.2.2.2 k
theorem ev_zret {x : Int32} (hd : IX (md_c M) pc .ireturn 1 nx) (hr : md_r M = some .boolean) (hz : x = 0 ∨ x = 1) : Ev G d M pc lc [.int x] h (some (.int x)) h := ev_iret hd hr (nr_z hz)
theorem ev_iiret {x : Int32} (hd : IX (md_c M) pc .ireturn 1 nx) (hr : md_r M = some .int) : Ev G d M pc lc [.int x] h (some (.int x)) h := ev_iret hd hr rfl
end

/-! ===== what each call answers, and the state behind it ===== -/
def idx (x : Int32) (n : Nat) : Option Nat := if ¬ x < 0 ∧ x < nI n then some x.toNatClampNeg else none
theorem idx_nI {j n : Nat} (hj : j < n) (hn : n < 2 ^ 31) : idx (nI j) n = some j := by
  unfold idx
  rw [if_pos ⟨nI_pos (by omega), (nI_ltI (by omega) hn).mpr hj⟩, nI_clamp (by omega)]
theorem idx_no {x : Int32} {n : Nat} (hn : n < 2 ^ 31) (h : ∀ j, j < n → x ≠ nI j) : idx x n = none := by
  unfold idx
  rw [if_neg]
  rintro ⟨a, b⟩
  obtain ⟨j, hj, rfl⟩ := nI_of a
  exact h j ((nI_ltI hj hn).mp b) rfl
theorem idx_cases (x : Int32) (n : Nat) (hn : n < 2 ^ 31) : (∃ j, j < n ∧ x = nI j ∧ idx x n = some j) ∨ ((∀ j, j < n → x ≠ nI j) ∧ idx x n = none ∧ (x < 0 ∨ nI n ≤ x)) := by
  rcases in_cases x n hn with c | ⟨j, hj, rfl⟩
  · right
    have hno : ∀ j, j < n → x ≠ nI j := fun j hj e => by
      rcases c with c | c
      · rw [e] at c; exact nI_pos (by omega) c
      · rw [e, nI_leI (by omega) (by omega)] at c; omega
    exact ⟨hno, idx_no hn hno, c⟩
  · left; exact ⟨j, hj, rfl, idx_nI hj hn⟩
def netA (n : Nat) : SA := (n, 0, fun _ => 0, fun _ => 0, fun _ => 0, fun _ _ _ => 0, 0, fun _ _ => 0)
def linkA (A : SA) (k q : Nat) : SA := (sn A, sh A, va_up (va_up (sp A) k (q + 1)) q (k + 1), sq A, sc A, sd A, sw A, sx A)
def hostA (A : SA) (k : Nat) : SA := (sn A, sh A + 1, va_up (sp A) k (100 + sh A), va_up (sq A) (sh A) k, sc A, sd A, sw A, sx A)
def unlA (A : SA) (k q : Nat) : SA := (sn A, sh A, va_up (va_up (sp A) q 0) k 0, sq A, sc A, sd A, sw A, sx A)
def unhA (A : SA) (k : Nat) : SA := (sn A, sh A - 1, va_up (sp A) k 0, sq A, sc A, sd A, sw A, sx A)
def ruleA (A : SA) (r : Nat) (x : Nat → Nat) : SA := (sn A, sh A, sp A, sq A, va_up (sc A) r (sc A r + 1), va_up (sd A) r (addD (sd A r) (sc A r) x), sw A, sx A)
def strikeA (A : SA) (r i : Nat) : SA := (sn A, sh A, sp A, sq A, va_up (sc A) r (sc A r - 1), va_up (sd A) r (cutD (sd A r) i), sw A, sx A)
def copyA (A : SA) (t f : Nat) : SA := (sn A, sh A, sp A, sq A, va_up (sc A) t (sc A f), va_up (sd A) t (sd A f), sw A, sx A)
def wantA (A : SA) (x : Nat → Int32) : SA := (sn A, sh A, sp A, sq A, sc A, sd A, sw A + 1, va_up (sx A) (sw A) x)
def unwantA (A : SA) (i : Nat) : SA := (sn A, sh A, sp A, sq A, sc A, sd A, sw A - 1, fun k => if k < i then sx A k else sx A (k + 1))
def six (x0 x1 x2 x3 x4 x5 : Int32) : Nat → Int32 := fun j => match j with | 0 => x0 | 1 => x1 | 2 => x2 | 3 => x3 | 4 => x4 | _ => x5
def four (x0 x1 x2 x3 : Nat) : Nat → Nat := fun j => match j with | 0 => x0 | 1 => x1 | 2 => x2 | _ => x3
/-- whether a want is of host x -/
def ofH (A : SA) (x i : Nat) : Bool := sx A i 3 == nI x || ((sx A i 0 == 0 || sx A i 0 == 2 || sx A i 0 == 3) && sx A i 4 == nI x)
def opNet (z : ZS) (x : Int32) : Int32 × ZS := match idx x 8 with
  | some n => if n = 0 then (0, z) else (1, freshZ z (netA n))
  | none => (0, z)
def opLink (z : ZS) (a b c d : Int32) : Int32 × ZS := match idx a (sn (zA z)), idx b 4, idx c (sn (zA z)), idx d 4 with
  | some s, some p, some t, some q => if s = t ∨ sp (zA z) (4 * s + p) ≠ 0 ∨ sp (zA z) (4 * t + q) ≠ 0 then (0, z) else (1, freshZ z (linkA (zA z) (4 * s + p) (4 * t + q)))
  | _, _, _, _ => (0, z)
def opHost (z : ZS) (a b : Int32) : Int32 × ZS := match idx a (sn (zA z)), idx b 4 with
  | some s, some p => if sp (zA z) (4 * s + p) ≠ 0 ∨ sh (zA z) = 6 then (-1, z) else (nI (sh (zA z)), freshZ z (hostA (zA z) (4 * s + p)))
  | _, _ => (-1, z)
def opUnplug (z : ZS) (a b : Int32) : Int32 × ZS := match idx a (sn (zA z)), idx b 4 with
  | some s, some p => if sp (zA z) (4 * s + p) = 0 then (0, z) else if sp (zA z) (4 * s + p) < 100 then (1, freshZ z (unlA (zA z) (4 * s + p) (sp (zA z) (4 * s + p) - 1))) else if sp (zA z) (4 * s + p) + 1 = 100 + sh (zA z) ∧ (∀ i, i < sw (zA z) → ofH (zA z) (sh (zA z) - 1) i = false) then (1, freshZ z (unhA (zA z) (4 * s + p))) else (0, z)
  | _, _ => (0, z)
def opRule (z : ZS) (bk s v b rk ac : Int32) : Int32 × ZS := match idx bk 2, idx s (sn (zA z)), idx v 16, idx b 16, idx rk 10, idx ac 5 with
  | some bk, some s, some v, some b, some rk, some ac => if sc (zA z) (7 * bk + s) = 6 then (-1, z) else (nI (sc (zA z) (7 * bk + s) + 1), freshZ z (ruleA (zA z) (7 * bk + s) (four v b rk ac)))
  | _, _, _, _, _, _ => (-1, z)
def opStrike (z : ZS) (bk s i : Int32) : Int32 × ZS := match idx bk 2, idx s (sn (zA z)) with
  | some bk, some s => (match idx i (sc (zA z) (7 * bk + s)) with
    | some i => (nI (sc (zA z) (7 * bk + s) - 1), freshZ z (strikeA (zA z) (7 * bk + s) i))
    | none => (-1, z))
  | _, _ => (-1, z)
def opCopy (z : ZS) (s back : Int32) : Int32 × ZS := match idx s (sn (zA z)) with
  | some s => if back = 0 then (nI (sc (zA z) (7 + s)), freshZ z (copyA (zA z) s (7 + s))) else (nI (sc (zA z) s), freshZ z (copyA (zA z) (7 + s) s))
  | none => (-1, z)
def opWant (z : ZS) (k v b a c s : Int32) : Int32 × ZS := match idx k 5, idx v 16, idx b 16, idx a (sh (zA z)) with
  | some q, some _, some _, some _ => if sw (zA z) = 10 ∨ ((q = 0 ∨ q = 2 ∨ q = 3) ∧ idx c (sh (zA z)) = none) ∨ (q = 3 ∧ idx s (sn (zA z)) = none) then (-1, z) else (nI (sw (zA z)), freshZ z (wantA (zA z) (six k v b a c s)))
  | _, _, _, _ => (-1, z)
def opUnwant (z : ZS) (i : Int32) : Int32 × ZS := match idx i (sw (zA z)) with
  | some i => (nI (sw (zA z) - 1), freshZ z (unwantA (zA z) i))
  | none => (-1, z)
def opLook (z : ZS) (w : Int32) : Int32 :=
  if w = 0 then nI (sn (zA z)) else if w = 1 then nI (sh (zA z)) else if w = 2 then nI (lkS (zA z) / 2) else if w = 3 then nI (smS (sc (zA z)) 14) else if w = 4 then nI (sw (zA z)) else if w = 5 then nI (unlikeS (zA z)) else if w = 6 then nI (clsS (zA z) 16).1 else if w = 7 then nI (cntS (gdS (zA z)) 128) else if w = 8 then nI (zP z).length else if w = 9 then (if unS (zP z) = unlikeS (zA z) then 1 else 0) else -1
def opClass (z : ZS) (m : Int32) : Int32 := match idx m 16 with
  | some m => nI ((clsS (zA z) 16).2 m)
  | none => -1
def opWay (z : ZS) (mx x m : Int32) : Int32 × ZS := match idx mx (2 ^ sn (zA z)), idx x (sh (zA z)), idx m 16 with
  | some mx, some x, some m => (nI (wayS (zA z) mx x m).1.length, (zA z, zP z, ((wayS (zA z) mx x m).1, nI (wayS (zA z) mx x m).2), zR2 z))
  | _, _, _ => (-1, z)
def opOn (z : ZS) (i : Int32) : Int32 := if i = -1 then (zT z).2 else match idx i (zT z).1.length with
  | some i => nI ((zT z).1.getD i 0)
  | none => -1
def opHolds (z : ZS) (w mx : Int32) : Int32 := match idx w (sw (zA z)), idx mx (2 ^ sn (zA z)) with
  | some w, some mx => if badS (zA z) w mx = 16 then 1 else 0
  | _, _ => -1
def opKept (z : ZS) (w : Int32) : Int32 := match idx w (sw (zA z)) with
  | some w => b2 (keptS (zA z) w)
  | none => -1
def opWhy (z : ZS) (mx w : Int32) : Int32 := match idx mx (2 ^ sn (zA z)), idx w 2 with
  | some mx, some w => if whyS (zA z) mx = sw (zA z) then -1 else if w = 0 then nI (whyS (zA z) mx) else nI (badS (zA z) (whyS (zA z) mx) mx)
  | _, _ => -1
def opLeast (z : ZS) : Int32 × ZS := if TS (zA z) 0 < 99 then (nI (leastS (zA z)).length, (zA z, leastS (zA z), zT z, none)) else (-1, z)
def opOrders (z : ZS) : Int32 := nI (OS (zA z) 0)
def opOrder (z : ZS) (k : Int32) : Int32 × ZS := match idx k (OS (zA z) 0) with
  | some k => (1, (zA z, ordS (zA z) 7 0 k, zT z, none))
  | none => (0, z)
def opRound (z : ZS) (s : Int32) : Int32 × ZS := match idx s 128 with
  | some s => if s = 0 ∨ wi s (unlikeS (zA z)) = false ∨ ¬ unS (zP z) &&& s = 0 then (-1, z) else (nI ((zP z).length + 1), (zA z, zP z ++ [s], zT z, none))
  | none => (-1, z)
def opEmpty (z : ZS) : ZS := (zA z, [], zT z, none)
def opPlan (z : ZS) (i : Int32) : Int32 := match idx i (zP z).length with
  | some i => nI ((zP z).getD i 0)
  | none => -1
def opMid (z : ZS) (i : Int32) : Int32 := match idx i (zP z).length with
  | some i => agI (zA z) (unS ((zP z).take i)) ((zP z).getD i 0)
  | none => -1
def opBegin (z : ZS) : Int32 × ZS := if (zP z).length = 0 then (0, z) else (1, (zA z, zP z, zT z, some (0, 0, [], 0)))
def opSend (z : ZS) (x m : Int32) : Int32 × ZS := match zR2 z, idx x (sh (zA z)), idx m 16 with
  | some (a, ch, ps, br), some x, some m => if ps.length = 40 then (-1, z) else (nI ps.length, (zA z, zP z, zT z, some (a, ch, ps ++ [(x, m, [sq (zA z) x / 4], -1)], br)))
  | _, _, _ => (-1, z)
/-- how many kept wants a packet's way breaks -/
def brkS (A : SA) (x m : Nat) (w : List Nat × Nat) : Nat := cntS (fun i => (keptS A i && (sx A i 3 == nI x && spanW A i m)) && !(metS A i m w)) (sw A)
def hopP (A : SA) (ch : Nat) (p : PK) : PK := (p.1, p.2.1, goN p.2.2.1 (goS A ch p.2.1 (p.2.2.1.getLastD 0)))
/-- the end of a packet that has ended, as a number -/
def endN (e : Int32) : Nat := e.toNatClampNeg
def opHop (z : ZS) (k : Int32) : Int32 × ZS := match zR2 z with
  | some (a, ch, ps, br) => (match idx k ps.length with
    | some k => (match ps[k]? with
      | some p => if p.2.2.2 = -1 then
          (if (hopP (zA z) ch p).2.2.2 = -1 then (nI (goS (zA z) ch p.2.1 (p.2.2.1.getLastD 0)), (zA z, zP z, zT z, some (a, ch, ps.set k (hopP (zA z) ch p), br)))
           else (nI (100 + endN (hopP (zA z) ch p).2.2.2), (zA z, zP z, zT z, some (a, ch, ps.set k (hopP (zA z) ch p), br + brkS (zA z) p.1 p.2.1 ((hopP (zA z) ch p).2.2.1, endN (hopP (zA z) ch p).2.2.2)))))
        else (-1, z)
      | none => (-1, z))
    | none => (-1, z))
  | none => (-1, z)
def leftS (l : List Nat) (a ch : Nat) : Nat := l.getD a 0 &&& (127 ^^^ ch)
def opChange (z : ZS) (s : Int32) : Int32 × ZS := match zR2 z, idx s (sn (zA z)) with
  | some (a, ch, ps, br), some s => if bit (leftS (zP z) a ch) s = 0 then (-1, z) else (nI (pc (leftS (zP z) a (ch ||| 2 ^ s))), (zA z, zP z, zT z, some (a, ch ||| 2 ^ s, ps, br)))
  | _, _ => (-1, z)
def opNext (z : ZS) : Int32 × ZS := match zR2 z with
  | some (a, ch, ps, br) => if a < (zP z).length ∧ leftS (zP z) a ch = 0 ∧ undS ps = 0 then (nI (a + 1), (zA z, zP z, zT z, some (a + 1, ch, ps, br))) else (-1, z)
  | none => (-1, z)
def opRun (z : ZS) (w : Int32) : Int32 := match zR2 z with
  | some (a, ch, ps, br) => if w = 0 then nI a else if w = 1 then nI ch else if w = 2 then nI ps.length else if w = 3 then nI (undS ps) else if w = 4 then nI br else -1
  | none => -1
def opPacket (z : ZS) (k w : Int32) : Int32 := match zR2 z with
  | some (a, ch, ps, br) => (match idx k ps.length with
    | some k => (match ps[k]? with
      | some p => if w = 0 then nI p.1 else if w = 1 then nI p.2.1 else if w = 2 then (if p.2.2.2 = -1 then nI (p.2.2.1.getLastD 0) else -1) else if w = 3 then p.2.2.2 else if w = 4 then nI p.2.2.1.length else (match idx (w - 100) p.2.2.1.length with | some i => if w < 100 then -1 else nI (p.2.2.1.getD i 0) | none => -1)
      | none => -1)
    | none => -1)
  | none => -1

/-! ===== the constructors ===== -/
def hA : MH := (f_X9_init (mm_no mh0 9) 0).getD mh0
def hB : MH := (f_X10_init (mm_no hA 10) (mm_N hA)).getD mh0
theorem get_of {α : Type} {x : Option α} {d : α} (h : x.isSome = true) : x = some (x.getD d) := by
  cases x with
  | none => cases h
  | some a => rfl
theorem hA_ok : f_X9_init (mm_no mh0 9) 0 = some hA := get_of (by decide +kernel)
theorem hB_ok : f_X10_init (mm_no hA 10) (mm_N hA) = some hB := get_of (by decide +kernel)
theorem hA_N : mm_N hA = 230 := by decide +kernel
theorem hB_N : mm_N hB = 252 := by decide +kernel
theorem hB_S : mm_S hB ≤ 100000 := by decide +kernel
theorem hB_K : ∀ a, a < 252 → mm_K hB a = gk a := by decide +kernel
theorem hB_L : ∀ a, a < 252 → 11 ≤ gk a → mm_L hB a = gl a := by decide +kernel
theorem hB_R : ∀ a, a < 252 → ∀ k, k < 40 → (gr a k = none ∨ mm_R hB a k = gr a k) := by decide +kernel

/-! what the pure functions are written with -/
/-- the fuel of each loop -/
def FU : Nat := 4096
/-- an index in a row of n -/
def ib (i : Int32) (n : Nat) : Bool := !(decide (i < 0)) && decide (i.toNatClampNeg < n)
/-- 0 or 1 -/
def nb (v : Int32) : Bool := v == 0 || v == 1
def bd {R : Type} (o : Option (Int32 × St)) (k : Int32 → St → Option R) : Option R := match o with
  | none => none
  | some x => k x.1 x.2
def bv {R : Type} (o : Option St) (k : St → Option R) : Option R := match o with
  | none => none
  | some x => k x
theorem ib_in {i : Int32} {n : Nat} (h : ib i n = true) : vp_in i n := by
  simp only [ib, Bool.and_eq_true, Bool.not_eq_true', decide_eq_false_iff_not, decide_eq_true_eq] at h
  intro q
  rcases q with q | q
  · exact h.1 q
  · omega
theorem nb_ok {v : Int32} (h : nb v = true) : narrow .boolean (.int v) = .int v := by
  simp only [nb, Bool.or_eq_true, beq_iff_eq] at h
  rcases h with rfl | rfl <;> rfl
theorem nb_fit {v : Int32} (h : nb v = true) : fits .boolean (.int v) = true := by
  simp only [nb, Bool.or_eq_true, beq_iff_eq] at h
  rcases h with rfl | rfl <;> rfl
theorem gd_some {R : Type} {b : Bool} {x : Option R} {r : R} (h : (if b = true then x else none) = some r) : b = true ∧ x = some r := by
  cases b with
  | false => cases h
  | true => exact ⟨rfl, h⟩
theorem gn_some {R : Type} {c : Prop} [Decidable c] {x : Option R} {r : R} (h : (if c then none else x) = some r) : ¬ c ∧ x = some r := by
  by_cases hc : c
  · rw [if_pos hc] at h
    cases h
  · rw [if_neg hc] at h
    exact ⟨hc, h⟩
theorem bd_some {R : Type} {o : Option (Int32 × St)} {k : Int32 → St → Option R} {r : R} (h : bd o k = some r) : ∃ x : Int32 × St, o = some x ∧ k x.1 x.2 = some r := by
  cases o with
  | none => cases h
  | some x => exact ⟨x, rfl, h⟩
theorem bv_some {R : Type} {o : Option St} {k : St → Option R} {r : R} (h : bv o k = some r) : ∃ x : St, o = some x ∧ k x = some r := by
  cases o with
  | none => cases h
  | some x => exact ⟨x, rfl, h⟩

/-! bits of a long -/
theorem and_loL {v : Int64} {k : Nat} (hk : k < 64) : (v >>> ((Int32.toInt64 (nI k)) &&& 63)) &&& (1 : Int64) = if v.toBitVec.toNat.testBit k then 1 else 0 := by
  have hs : ((Int32.toInt64 (nI k) &&& 63 : Int64).toBitVec.smod 64).toNat = k := by
    have h : ∀ j, j < 64 → ((Int32.toInt64 (nI j) &&& 63 : Int64).toBitVec.smod 64).toNat = j := by decide
    exact h k hk
  apply Int64.toBitVec_inj.mp
  apply BitVec.eq_of_getLsbD_eq
  intro i hi
  rw [Int64.toBitVec_and, BitVec.getLsbD_and, Int64.toBitVec_shiftRight, BitVec.sshiftRight', hs, BitVec.getLsbD_sshiftRight]
  have h1 : (1 : Int64).toBitVec.getLsbD i = decide (i = 0) := by
    show (1#64).getLsbD i = decide (i = 0)
    rw [BitVec.getLsbD_one]
    simp
  have h2 : v.toBitVec.toNat.testBit k = v.toBitVec.getLsbD k := rfl
  rw [h1, h2]
  by_cases h0 : i = 0
  · subst h0
    have h3 : ¬ 64 ≤ 0 := by omega
    have h4 : k + 0 < 64 := by omega
    rw [if_pos h4]
    cases hb : v.toBitVec.getLsbD k with
    | true => simp [hb]
    | false => simp [hb]
  · rw [decide_eq_false h0, Bool.and_false]
    cases v.toBitVec.getLsbD k with
    | true =>
      rw [if_pos rfl, h1, decide_eq_false h0]
    | false =>
      rw [if_neg (by decide)]
      show false = (0#64).getLsbD i
      rw [BitVec.getLsbD_zero]
theorem bitL_0 {v : Int64} {k : Nat} (hk : k < 64) : (lg_cmp ((v >>> ((Int32.toInt64 (nI k)) &&& 63)) &&& (1 : Int64)) (0 : Int64) = 0) ↔ v.toBitVec.toNat.testBit k = false := by
  rw [lg_cmp_eq, and_loL hk]
  cases v.toBitVec.toNat.testBit k <;> decide
theorem orL {v : Int64} {k : Nat} (hk : k < 64) : (v ||| ((1 : Int64) <<< ((Int32.toInt64 (nI k)) &&& 63))).toBitVec.toNat = v.toBitVec.toNat ||| 2 ^ k := by
  have hs : ((Int32.toInt64 (nI k) &&& 63 : Int64).toBitVec.smod 64).toNat = k := by
    have h : ∀ j, j < 64 → ((Int32.toInt64 (nI j) &&& 63 : Int64).toBitVec.smod 64).toNat = j := by decide
    exact h k hk
  rw [Int64.toBitVec_or, BitVec.toNat_or, Int64.toBitVec_shiftLeft, BitVec.shiftLeft_eq', hs, BitVec.toNat_shiftLeft]
  congr 1
  show (1 <<< k) % 2 ^ 64 = 2 ^ k
  rw [Nat.shiftLeft_eq, Nat.one_mul, Nat.mod_eq_of_lt (Nat.pow_lt_pow_right (by omega) hk)]

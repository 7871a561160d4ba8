/-! rows of a few, as codes: their order by steps and by rank -/
def dg (z i : Nat) : Nat := z / 8 ^ i % 8
def enc (f : Nat → Nat) : Nat := f 0 + 8 * (f 1 + 8 * (f 2 + 8 * (f 3 + 8 * (f 4 + 8 * f 5))))
theorem dg_lt (z i : Nat) : dg z i < 8 := Nat.mod_lt _ (by decide)
theorem dg_0 {i z : Nat} (h : i < 8) : dg (i + 8 * z) 0 = i := by
  unfold dg
  rw [Nat.pow_zero, Nat.div_one, Nat.add_mul_mod_self_left, Nat.mod_eq_of_lt h]
theorem dg_s {i z : Nat} (h : i < 8) (j : Nat) : dg (i + 8 * z) (j + 1) = dg z j := by
  unfold dg
  rw [Nat.pow_succ', ← Nat.div_div_eq_div_mul, show (i + 8 * z) / 8 = z by omega]
theorem dg_enc {f : Nat → Nat} (h : ∀ i, i < 6 → f i < 8) {i : Nat} (hi : i < 6) : dg (enc f) i = f i := by
  unfold enc
  match i, hi with
  | 0, _ => exact dg_0 (h 0 (by decide))
  | 1, _ => rw [dg_s (h 0 (by decide))]; exact dg_0 (h 1 (by decide))
  | 2, _ => rw [dg_s (h 0 (by decide)), dg_s (h 1 (by decide))]; exact dg_0 (h 2 (by decide))
  | 3, _ => rw [dg_s (h 0 (by decide)), dg_s (h 1 (by decide)), dg_s (h 2 (by decide))]; exact dg_0 (h 3 (by decide))
  | 4, _ => rw [dg_s (h 0 (by decide)), dg_s (h 1 (by decide)), dg_s (h 2 (by decide)), dg_s (h 3 (by decide))]; exact dg_0 (h 4 (by decide))
  | 5, _ =>
    rw [dg_s (h 0 (by decide)), dg_s (h 1 (by decide)), dg_s (h 2 (by decide)), dg_s (h 3 (by decide)), dg_s (h 4 (by decide))]
    have := dg_0 (i := f 5) (z := 0) (h 5 (by decide))
    exact this
def swZ (z a b : Nat) : Nat := enc (swp (dg z) a b)
theorem swZ_dg (z a b : Nat) {i : Nat} (hi : i < 6) : dg (swZ z a b) i = swp (dg z) a b i := by
  refine dg_enc (fun j _ => ?_) hi
  rw [swp_at]
  split
  · exact dg_lt _ _
  · split <;> exact dg_lt _ _
def DG (K z : Nat) : Prop := ∀ i, i < K → dg z i < K
theorem DG_sw {K z a b : Nat} (hK : K ≤ 6) (h : DG K z) (ha : a < K) (hb : b < K) : DG K (swZ z a b) := by
  intro i hi
  rw [swZ_dg z a b (show i < 6 by omega), swp_at]
  split
  · exact h a ha
  · split
    · exact h b hb
    · exact h i hi
/-- the place where the row can still grow, and one; 0: none -/
def loF (z : Nat) : Nat → Nat
  | 0 => 0
  | l + 1 => if dg z l ≤ dg z (l + 1) then l + 1 else loF z l
def hiF (z l : Nat) : Nat → Nat
  | 0 => 0
  | h + 1 => if h + 1 ≤ l then h + 1 else if dg z l ≤ dg z (h + 1) then h + 1 else hiF z l h
def rvF : Nat → Nat → Nat → Nat → Nat
  | 0, z, _, _ => z
  | n + 1, z, a, b => if b ≤ a then z else rvF n (swZ z a b) (a + 1) (b - 1)
def nxZ (K z l : Nat) : Nat := rvF 6 (swZ z l (hiF z l (K - 1))) (l + 1) (K - 1)
/-- by rank -/
def pkF (u : Nat) : Nat → Nat → Nat → Nat
  | 0, _, i => i
  | n + 1, s, i => if u.testBit i then pkF u n s (i + 1) else if s = 0 then i else pkF u n (s - 1) (i + 1)
def urF : Nat → Nat → Nat → Nat → Nat
  | 0, _, _, _ => 0
  | m + 1, left, part, u => pkF u 6 (left / (part / (m + 1))) 0 + 8 * urF m (left % (part / (m + 1))) (part / (m + 1)) (u + 2 ^ pkF u 6 (left / (part / (m + 1))) 0)
def ckF : Nat → Nat → Nat → Nat → Bool
  | 0, _, _, _ => true
  | m + 1, left, part, u => decide (part / (m + 1) ≠ 0) && decide (pkF u 6 (left / (part / (m + 1))) 0 < 6) && decide (u + 2 ^ pkF u 6 (left / (part / (m + 1))) 0 < 64) && !(u.testBit (pkF u 6 (left / (part / (m + 1))) 0)) && ckF m (left % (part / (m + 1))) (part / (m + 1)) (u + 2 ^ pkF u 6 (left / (part / (m + 1))) 0)
def fct : Nat → Nat
  | 0 => 1
  | n + 1 => fct n * (n + 1)
def urZ (K r : Nat) : Nat := urF K r (fct K) 0
theorem ur_ck : ∀ K, K < 7 → ∀ r, r < fct K → ckF K r (fct K) 0 = true := by decide +kernel
theorem ur_dg : ∀ K, K < 7 → ∀ r, r < fct K → ∀ i, i < K → dg (urZ K r) i < K := by decide +kernel
theorem ur_sur : ∀ K, K < 7 → ∀ r, r < fct K → ∀ i, i < K → ∃ k, k < K ∧ dg (urZ K r) k = i := by decide +kernel
theorem ur_inj : ∀ K, K < 7 → ∀ r, r < fct K → ∀ i, i < K → ∀ j, j < i → dg (urZ K r) i ≠ dg (urZ K r) j := by decide +kernel
theorem ur_last : ∀ K, K < 7 → loF (urZ K (fct K - 1)) (K - 1) = 0 := by decide +kernel
theorem ur_next : ∀ K, K < 7 → ∀ r, r < fct K - 1 → loF (urZ K r) (K - 1) ≠ 0 ∧ nxZ K (urZ K r) (loF (urZ K r) (K - 1) - 1) = urZ K (r + 1) := by decide +kernel
theorem ur_first : ∀ K, K < 7 → ∀ i, i < K → dg (urZ K 0) i = i := by decide +kernel

/-! remainders, waits, ones -/
theorem irem_toInt {x y : Int32} (hy : 0 < y.toInt) : (x - x / y * y).toInt = x.toInt.tmod y.toInt := by
  have hx := fb_rng x
  have hy2 := fb_rng y
  have hd : (x / y).toInt = x.toInt.tdiv y.toInt := by
    rw [Int32.toInt_div]
    apply fb_bmod
    · have := Int.natAbs_tdiv_le_natAbs x.toInt y.toInt
      omega
    · by_cases h : 0 ≤ x.toInt
      · have := Int.tdiv_le_self y.toInt h
        omega
      · have := Int.tdiv_nonneg (a := -x.toInt) (b := y.toInt) (by omega) (by omega)
        rw [Int.neg_tdiv] at this
        omega
  have he := Int.tmod_add_mul_tdiv x.toInt y.toInt
  have hb1 : -y.toInt < x.toInt.tmod y.toInt := Int.lt_tmod_of_pos _ hy
  have hb2 : x.toInt.tmod y.toInt < y.toInt := Int.tmod_lt_of_pos _ hy
  have hmc : x.toInt.tdiv y.toInt * y.toInt = y.toInt * x.toInt.tdiv y.toInt := Int.mul_comm _ _
  have hsgn : (0 ≤ x.toInt → 0 ≤ x.toInt.tmod y.toInt) ∧ (x.toInt ≤ 0 → x.toInt.tmod y.toInt ≤ 0) := by
    constructor
    · intro h; exact Int.tmod_nonneg _ h
    · intro h
      have := Int.tmod_nonneg (a := -x.toInt) y.toInt (by omega)
      rw [Int.neg_tmod] at this
      omega
  have hm : (x / y * y).toInt = x.toInt.tdiv y.toInt * y.toInt := by
    rw [fb_mulI (by rw [hd]; omega) (by rw [hd]; omega), hd]
  rw [fb_subI (by rw [hm]; omega) (by rw [hm]; omega), hm]
  omega
/-- the wait, at time t, for what comes at each time that is p modulo r -/
def wt (p r t : Nat) : Nat := (((p : Int) - t) % (r : Int)).toNat
theorem wt_lt {p r t : Nat} (hr : 0 < r) : wt p r t < r := by
  unfold wt
  have h1 := Int.emod_nonneg ((p : Int) - t) (b := (r : Int)) (by omega)
  have h2 := Int.emod_lt_of_pos ((p : Int) - t) (b := (r : Int)) (by omega)
  omega
theorem wt_int {p r t : Nat} (hr : 0 < r) : ((wt p r t : Nat) : Int) = ((p : Int) - t) % (r : Int) := by
  unfold wt
  have h1 := Int.emod_nonneg ((p : Int) - t) (b := (r : Int)) (by omega)
  omega
theorem wt_mod (p r t : Nat) : wt (p % r) r t = wt p r t := by
  unfold wt
  congr 1
  rw [Int.natCast_emod, Int.emod_sub_emod]
theorem of_toInt {x : Int32} {n : Nat} (hn : n < 2 ^ 31) (h : x.toInt = n) : x = nI n := by
  rw [i_eq, h, nI_toInt hn]
theorem xor_neg {x y : Int32} (hx : x < 0) (hy : ¬ y < 0) : ¬ 0 ≤ x ^^^ y := by
  have h0 : (0 : Int32).toInt = 0 := rfl
  rw [i_lt, h0] at hx hy
  intro h
  rw [i_le, h0] at h
  have a1 : x.toBitVec.msb = true := by
    rw [BitVec.msb_eq_toInt]
    exact decide_eq_true hx
  have a2 : y.toBitVec.msb = false := by
    rw [BitVec.msb_eq_toInt]
    exact decide_eq_false hy
  have a3 : (x ^^^ y).toBitVec.msb = false := by
    rw [BitVec.msb_eq_toInt]
    exact decide_eq_false (by show ¬ (x ^^^ y).toInt < 0; omega)
  rw [Int32.toBitVec_xor, BitVec.msb_xor, a1, a2] at a3
  cases a3
theorem floorMod_is {x : Int32} {a : Int} {r : Nat} (hr : 0 < r) (hr2 : r < 2 ^ 20) (hx : x.toInt = a) (σ : St) : F_xJ9_floorMod_7cf53 x (nI r) σ = some (nI (a % (r : Int)).toNat, σ) := by
  have hrI : (nI r).toInt = (r : Int) := nI_toInt (by omega)
  have hrem : (x - x / nI r * nI r).toInt = a.tmod r := by rw [irem_toInt (by omega), hx, hrI]
  have h0 : (0 : Int32).toInt = 0 := rfl
  have e1 := Int.emod_nonneg a (b := (r : Int)) (by omega)
  have e2 := Int.emod_lt_of_pos a (b := (r : Int)) (by omega)
  have ht := Int.tmod_eq_emod (a := a) (b := (r : Int))
  unfold F_xJ9_floorMod_7cf53
  rw [if_neg (nI_ne0 hr (by omega))]
  by_cases hn : x < 0
  · rw [if_neg (xor_neg hn (nI_pos (by omega)))]
    rw [i_lt, h0, hx] at hn
    by_cases hz : (x - x / nI r * nI r) = 0
    · rw [if_pos hz, hz]
      rw [i_eq, hrem, h0] at hz
      have : a % (r : Int) = 0 := by
        have h5 : (r : Int) ∣ a := Int.dvd_of_tmod_eq_zero hz
        exact Int.emod_eq_zero_of_dvd h5
      rw [this]
      rfl
    · rw [if_neg hz]
      rw [i_eq, hrem, h0] at hz
      have h5 : ¬ (r : Int) ∣ a := fun h => hz (Int.tmod_eq_zero_of_dvd h)
      rw [if_neg (fun h => h.elim (fun h => by omega) h5)] at ht
      have e3 : ((r : Int).natAbs : Int) = r := by omega
      congr 2
      apply of_toInt (by omega)
      rw [fb_addI (by rw [hrem, hrI]; omega) (by rw [hrem, hrI]; omega), hrem, hrI]
      omega
  · have hnn : 0 ≤ x ^^^ nI r := by
      obtain ⟨j, hj, rfl⟩ := nI_of hn
      rw [fb_xorI]
      exact nI_pos' (Nat.xor_lt_two_pow hj (by omega))
    rw [if_pos hnn]
    rw [i_lt, h0, hx] at hn
    rw [if_pos (Or.inl (by omega))] at ht
    congr 2
    apply of_toInt (by omega)
    rw [hrem]
    omega
theorem x_wait {σ : St} {n p r t : Nat} (hn : n < 64) (h27 : σ.2.1 27 n = nI p) (h28 : σ.2.1 28 n = nI r) (hp : p < r) (hr : r ≤ 32) (ht : t < 2 ^ 30) : F_xX3_waitFor (nI n) (nI t) σ = some (nI (wt p r t), σ) := by
  unfold F_xX3_waitFor
  rw [if_pos (ib_nI hn (by omega)), nI_clamp (by omega), h28, if_pos (show (1 : Int32) ≤ nI r from nI_le (a := 1) (by omega) (by omega)), h27, floorMod_is (a := (p : Int) - t) (by omega) (by omega) (pk_sub_toInt (by omega) (by omega)), bd_is]
  rfl
theorem m_wait {τ : St} {w n s r t : Nat} (hn : n < 40) (h8 : τ.1 8 = nI w) (hw : 0 < w) (hw2 : w ≤ 32) (h7 : τ.2.1 7 n = nI s) (hs : s < 128) (hsw : s / w < 4) (h2 : τ.2.1 2 (s / w) = nI r) (hr0 : 0 < r) (hr : r ≤ 32) (ht : t < 2 ^ 30) : F_mX11_waitFor (nI n) (nI t) τ = some (nI (wt (s % w) r t), τ) := by
  have hm : s % w < w := Nat.mod_lt _ hw
  have h0 : (0 : Int32).toInt = 0 := rfl
  have hrI : (nI r).toInt = (r : Int) := nI_toInt (by omega)
  have hd : nI s / nI w = nI (s / w) := pk_div (by omega) hw (by omega)
  have hrm : nI s - nI s / nI w * nI w = nI (s % w) := pk_rem (by omega) hw (by omega)
  have htm : nI t - nI t / nI r * nI r = nI (t % r) := pk_rem (by omega) hr0 (by omega)
  have htr : t % r < r := Nat.mod_lt _ hr0
  unfold F_mX11_waitFor
  rw [if_pos (ib_nI hn (by omega)), nI_clamp (by omega), h8, if_neg (nI_ne0 hw (by omega)), h7, hrm, hd, if_pos (ib_nI (by omega) (by omega)), nI_clamp (by omega), h2, nm_is, if_neg (nI_ne0 hr0 (by omega)), htm, nm_is]
  have hx : (nI (s % w) - nI (t % r)).toInt = ((s % w : Nat) : Int) - ((t % r : Nat) : Int) := pk_sub_toInt (by omega) (by omega)
  have hrem := irem_toInt (x := nI (s % w) - nI (t % r)) (y := nI r) (by omega)
  rw [hx, hrI] at hrem
  generalize (nI (s % w) - nI (t % r)) - (nI (s % w) - nI (t % r)) / nI r * nI r = z at hrem ⊢
  have htt := Int.tmod_eq_emod (a := ((s % w : Nat) : Int) - ((t % r : Nat) : Int)) (b := (r : Int))
  have hem : (((s % w : Nat) : Int) - ((t % r : Nat) : Int)) % (r : Int) = ((s % w : Nat) : Int) % r - 0 + (((s % w : Nat) : Int) - (t : Int)) % r - ((s % w : Nat) : Int) % r := by
    rw [Int.natCast_emod t r, Int.sub_emod_emod]
    omega
  have hwi := wt_int (p := s % w) (t := t) hr0
  have hwl := wt_lt (p := s % w) (t := t) hr0
  have e3 : ((r : Int).natAbs : Int) = r := by omega
  by_cases hz : 0 ≤ z
  · rw [if_pos hz]
    rw [i_le, h0, hrem] at hz
    congr 2
    apply of_toInt (by omega)
    rw [hrem, hwi]
    by_cases hc : 0 ≤ ((s % w : Nat) : Int) - ((t % r : Nat) : Int) ∨ (r : Int) ∣ ((s % w : Nat) : Int) - ((t % r : Nat) : Int)
    · rw [if_pos hc] at htt
      omega
    · rw [if_neg hc] at htt
      have e2 := Int.emod_lt_of_pos (((s % w : Nat) : Int) - ((t % r : Nat) : Int)) (b := (r : Int)) (by omega)
      omega
  · rw [if_neg hz]
    rw [i_le, h0, hrem] at hz
    congr 2
    apply of_toInt (by omega)
    have e1 := Int.emod_nonneg (((s % w : Nat) : Int) - ((t % r : Nat) : Int)) (b := (r : Int)) (by omega)
    have hc : ¬ (0 ≤ ((s % w : Nat) : Int) - ((t % r : Nat) : Int) ∨ (r : Int) ∣ ((s % w : Nat) : Int) - ((t % r : Nat) : Int)) := by
      intro hc
      rw [if_pos hc] at htt
      omega
    rw [if_neg hc] at htt
    rw [fb_addI (by rw [hrem, hrI]; omega) (by rw [hrem, hrI]; omega), hrem, hrI, hwi]
    omega

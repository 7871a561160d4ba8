/-! ones of a long -/
theorem l_and (x y : Int64) : (x &&& y).toBitVec.toNat = x.toBitVec.toNat &&& y.toBitVec.toNat := by
  rw [Int64.toBitVec_and, BitVec.toNat_and]
theorem l_add (x y : Int64) : (x + y).toBitVec.toNat = (x.toBitVec.toNat + y.toBitVec.toNat) % 2 ^ 64 := by
  rw [Int64.toBitVec_add, BitVec.toNat_add]
theorem l_sub {x y : Int64} (h : y.toBitVec.toNat ≤ x.toBitVec.toNat) : (x - y).toBitVec.toNat = x.toBitVec.toNat - y.toBitVec.toNat := by
  rw [Int64.toBitVec_sub, BitVec.toNat_sub]
  have := x.toBitVec.isLt
  have := y.toBitVec.isLt
  omega
theorem l_ushr (x : Int64) (s : UInt64) (k : Nat) (h : (s.toBitVec % 64).toNat = k) : ((Int64.toUInt64 x >>> s).toInt64).toBitVec.toNat = x.toBitVec.toNat / 2 ^ k := by
  show (Int64.toUInt64 x >>> s).toBitVec.toNat = _
  rw [UInt64.toBitVec_shiftRight, BitVec.ushiftRight_eq', h, BitVec.toNat_ushiftRight, Nat.shiftRight_eq_div_pow]
  rfl
def popL (v : Int64) : Nat := fb_ct (fun k => v.toBitVec.toNat.testBit k) 64
theorem pm_16 {p0 p1 p2 M0 M1 M2 M3 : Nat} (h0 : p0 ≤ 8) (h1 : p1 ≤ 8) (h2 : p2 ≤ 8) (e0 : M0 = p0 + 256 * M1) (e1 : M1 = p1 + 256 * M2) (e2 : M2 = p2 + 256 * M3) : (M0 + M1) / 65536 = M2 + M3 := by omega
theorem pm_8 {p0 p1 p2 p3 M0 M1 M2 M3 M4 : Nat} (h0 : p0 ≤ 8) (h1 : p1 ≤ 8) (h2 : p2 ≤ 8) (h3 : p3 ≤ 8) (e0 : M0 = p0 + 256 * M1) (e1 : M1 = p1 + 256 * M2) (e2 : M2 = p2 + 256 * M3) (e3 : M3 = p3 + 256 * M4) : (M0 + M1 + (M2 + M3)) / 256 = M1 + M2 + (M3 + M4) := by omega
theorem pm_32 (x : Nat) : x / 4294967296 = x / 256 / 256 / 256 / 256 := by omega
theorem pm_m {p0 p1 p2 p3 p4 p5 p6 p7 N0 N1 N2 N3 N4 N5 N6 N7 : Nat} (h : p0 + p1 + p2 + p3 + p4 + p5 + p6 + p7 < 128) :
    ((p0 + 256 * N0) + (p1 + 256 * N1) + ((p2 + 256 * N2) + (p3 + 256 * N3)) + ((p4 + 256 * N4) + (p5 + 256 * N5) + ((p6 + 256 * N6) + (p7 + 256 * N7)))) % 128 = p0 + p1 + p2 + p3 + p4 + p5 + p6 + p7 := by
  have e : ((p0 + 256 * N0) + (p1 + 256 * N1) + ((p2 + 256 * N2) + (p3 + 256 * N3)) + ((p4 + 256 * N4) + (p5 + 256 * N5) + ((p6 + 256 * N6) + (p7 + 256 * N7)))) = (p0 + p1 + p2 + p3 + p4 + p5 + p6 + p7) + 128 * (2 * (N0 + N1 + N2 + N3 + N4 + N5 + N6 + N7)) := by omega
  rw [e, Nat.add_mul_mod_self_left]
  exact Nat.mod_eq_of_lt h
theorem vb_of : ∀ (n N : Nat), N < 256 ^ n → ∃ l : List Nat, l.length = n ∧ (∀ b ∈ l, b < 256) ∧ N = vb l
  | 0, N, h => ⟨[], rfl, fun b hb => absurd hb (List.not_mem_nil), by have : N < 1 := h; show N = 0; omega⟩
  | n + 1, N, h => by
    obtain ⟨l, h1, h2, h3⟩ := vb_of n (N / 256) (by rw [Nat.pow_succ] at h; omega)
    refine ⟨N % 256 :: l, by rw [List.length_cons, h1], ?_, ?_⟩
    · intro b hb
      rcases List.mem_cons.mp hb with e | e
      · rw [e]; omega
      · exact h2 b e
    · show N = N % 256 + 256 * vb l
      omega
theorem vb_half : ∀ l : List Nat, (∀ b ∈ l, b < 128) → 2 * vb l < 256 ^ l.length
  | [], _ => by decide
  | b :: l, h => by
    have h1 := vb_half l (fun x hx => h x (List.mem_cons_of_mem _ hx))
    have h2 := h b List.mem_cons_self
    show 2 * (b + 256 * vb l) < 256 ^ (l.length + 1)
    rw [Nat.pow_succ]
    omega
theorem vb_half8 {l : List Nat} (hl : l.length = 8) (h : ∀ b ∈ l, b < 128) : 2 * vb l < 18446744073709551616 := by
  have := vb_half l h
  rwa [hl, show (256 : Nat) ^ 8 = 18446744073709551616 from by decide] at this
theorem pm_ov {M0 M1 M2 M3 M4 M5 M6 M7 p0 p1 p2 p3 p4 p5 p6 p7 : Nat} (h0 : p0 ≤ 8) (h1 : p1 ≤ 8) (h2 : p2 ≤ 8) (h3 : p3 ≤ 8) (h4 : p4 ≤ 8) (h5 : p5 ≤ 8) (h6 : p6 ≤ 8) (h7 : p7 ≤ 8)
    (e0 : M0 = p0 + 256 * M1) (e1 : M1 = p1 + 256 * M2) (e2 : M2 = p2 + 256 * M3) (e3 : M3 = p3 + 256 * M4) (e4 : M4 = p4 + 256 * M5) (e5 : M5 = p5 + 256 * M6) (e6 : M6 = p6 + 256 * M7) (e7 : M7 = p7) :
    M0 + M1 + (M2 + M3) + (M4 + M5 + (M6 + M7)) < 18446744073709551616 := by
  have b7 : M7 ≤ 8 := by omega
  have b6 : M6 ≤ 2056 := by omega
  have b5 : M5 ≤ 526344 := by omega
  have b4 : M4 ≤ 134744072 := by omega
  have b3 : M3 ≤ 34494482440 := by omega
  have b2 : M2 ≤ 8830587504648 := by omega
  have b1 : M1 ≤ 2260630401189896 := by omega
  have b0 : M0 ≤ 578721382704613384 := by omega
  clear e0 e1 e2 e3 e4 e5 e6 e7 h0 h1 h2 h3 h4 h5 h6 h7
  omega
theorem pop_tail {M0 M1 M2 M3 M4 M5 M6 M7 p0 p1 p2 p3 p4 p5 p6 p7 : Nat} (h0 : p0 ≤ 8) (h1 : p1 ≤ 8) (h2 : p2 ≤ 8) (h3 : p3 ≤ 8) (h4 : p4 ≤ 8) (h5 : p5 ≤ 8) (h6 : p6 ≤ 8) (h7 : p7 ≤ 8)
    (e0 : M0 = p0 + 256 * M1) (e1 : M1 = p1 + 256 * M2) (e2 : M2 = p2 + 256 * M3) (e3 : M3 = p3 + 256 * M4) (e4 : M4 = p4 + 256 * M5) (e5 : M5 = p5 + 256 * M6) (e6 : M6 = p6 + 256 * M7) (e7 : M7 = p7 + 256 * 0)
    {y3 : Int64} (v3 : y3.toBitVec.toNat = M0) (σ : St) : (some (((Int64.toInt32 (((y3 + (Int64.toUInt64 y3 >>> ((Int32.toInt64 8).toUInt64 &&& Int64.toUInt64 63)).toInt64) + (Int64.toUInt64 (y3 + (Int64.toUInt64 y3 >>> ((Int32.toInt64 8).toUInt64 &&& Int64.toUInt64 63)).toInt64) >>> ((Int32.toInt64 16).toUInt64 &&& Int64.toUInt64 63)).toInt64) + (Int64.toUInt64 ((y3 + (Int64.toUInt64 y3 >>> ((Int32.toInt64 8).toUInt64 &&& Int64.toUInt64 63)).toInt64) + (Int64.toUInt64 (y3 + (Int64.toUInt64 y3 >>> ((Int32.toInt64 8).toUInt64 &&& Int64.toUInt64 63)).toInt64) >>> ((Int32.toInt64 16).toUInt64 &&& Int64.toUInt64 63)).toInt64) >>> ((Int32.toInt64 32).toUInt64 &&& Int64.toUInt64 63)).toInt64)) &&& 127), σ) : Option (Int32 × St)) = some (nI (p0 + p1 + p2 + p3 + p4 + p5 + p6 + p7), σ) := by
  have hov := pm_ov h0 h1 h2 h3 h4 h5 h6 h7 e0 e1 e2 e3 e4 e5 e6 e7
  have u4 := l_ushr y3 ((Int32.toInt64 8).toUInt64 &&& Int64.toUInt64 63) 8 (by decide)
  rw [show (2 : Nat) ^ 8 = 256 from rfl, v3] at u4
  have u4' : M0 / 256 = M1 := by clear hov e1 e2 e3 e4 e5 e6 e7; omega
  rw [u4'] at u4
  have v4 := l_add y3 (Int64.toUInt64 y3 >>> ((Int32.toInt64 8).toUInt64 &&& Int64.toUInt64 63)).toInt64
  rw [u4, v3, Nat.mod_eq_of_lt (show M0 + M1 < 18446744073709551616 by clear e0 e1 e2 e3 e4 e5 e6 e7; omega)] at v4
  generalize (y3 + (Int64.toUInt64 y3 >>> ((Int32.toInt64 8).toUInt64 &&& Int64.toUInt64 63)).toInt64) = y4 at v4 ⊢
  have u5 := l_ushr y4 ((Int32.toInt64 16).toUInt64 &&& Int64.toUInt64 63) 16 (by decide)
  rw [show (2 : Nat) ^ 16 = 65536 from rfl, v4, pm_16 h0 h1 h2 e0 e1 e2] at u5
  have v5 := l_add y4 (Int64.toUInt64 y4 >>> ((Int32.toInt64 16).toUInt64 &&& Int64.toUInt64 63)).toInt64
  rw [u5, v4, Nat.mod_eq_of_lt (show M0 + M1 + (M2 + M3) < 18446744073709551616 by clear e0 e1 e2 e3 e4 e5 e6 e7; omega)] at v5
  generalize (y4 + (Int64.toUInt64 y4 >>> ((Int32.toInt64 16).toUInt64 &&& Int64.toUInt64 63)).toInt64) = y5 at v5 ⊢
  have u6 := l_ushr y5 ((Int32.toInt64 32).toUInt64 &&& Int64.toUInt64 63) 32 (by decide)
  rw [show (2 : Nat) ^ 32 = 4294967296 from rfl, v5, pm_32, pm_8 h0 h1 h2 h3 e0 e1 e2 e3, pm_8 h1 h2 h3 h4 e1 e2 e3 e4, pm_8 h2 h3 h4 h5 e2 e3 e4 e5, pm_8 h3 h4 h5 h6 e3 e4 e5 e6] at u6
  have v6 := l_add y5 (Int64.toUInt64 y5 >>> ((Int32.toInt64 32).toUInt64 &&& Int64.toUInt64 63)).toInt64
  rw [u6, v5, Nat.mod_eq_of_lt hov] at v6
  generalize (y5 + (Int64.toUInt64 y5 >>> ((Int32.toInt64 32).toUInt64 &&& Int64.toUInt64 63)).toInt64) = y6 at v6 ⊢
  have v7 : y6.toBitVec.toNat % 128 = p0 + p1 + p2 + p3 + p4 + p5 + p6 + p7 := by
    rw [v6]
    have := pm_m (p0 := p0) (p1 := p1) (p2 := p2) (p3 := p3) (p4 := p4) (p5 := p5) (p6 := p6) (p7 := p7) (N0 := M1) (N1 := M2) (N2 := M3) (N3 := M4) (N4 := M5) (N5 := M6) (N6 := M7) (N7 := 0) (by clear hov e0 e1 e2 e3 e4 e5 e6 e7; omega)
    rwa [← e0, ← e1, ← e2, ← e3, ← e4, ← e5, ← e6, ← e7] at this
  rw [pk_and _ (m := 127) 7 (by decide)]
  have e7 : (Int64.toInt32 y6).toBitVec.toNat = y6.toBitVec.toNat % 4294967296 := by
    rw [Int64.toBitVec_toInt32, BitVec.signExtend_eq_setWidth_of_le _ (by omega), BitVec.toNat_setWidth]
  rw [e7, show (2 : Nat) ^ 7 = 128 from rfl, Nat.mod_mod_of_dvd _ (by decide : 128 ∣ 4294967296), v7]
theorem bcL_is (x : Int64) (σ : St) : F_xJ13_bitCount_95d88 x σ = some (nI (popL x), σ) := by
  obtain ⟨bs, hl, hbs, hN⟩ := vb_of 8 x.toBitVec.toNat (by have := x.toBitVec.isLt; rwa [show (256 : Nat) ^ 8 = 2 ^ 64 from by decide])
  obtain ⟨t1, t2, t3⟩ := pop_turns bs hbs
  have m85 : (6148914691236517205 : Int64).toBitVec.toNat = vb (bs.map fun _ => 85) := by
    match bs, hl with
    | [_, _, _, _, _, _, _, _], _ => exact (show (6148914691236517205 : Int64).toBitVec.toNat = 85 + 256 * (85 + 256 * (85 + 256 * (85 + 256 * (85 + 256 * (85 + 256 * (85 + 256 * (85 + 256 * 0))))))) by decide)
  have m51 : (3689348814741910323 : Int64).toBitVec.toNat = vb (bs.map fun _ => 51) := by
    match bs, hl with
    | [_, _, _, _, _, _, _, _], _ => exact (show (3689348814741910323 : Int64).toBitVec.toNat = 51 + 256 * (51 + 256 * (51 + 256 * (51 + 256 * (51 + 256 * (51 + 256 * (51 + 256 * (51 + 256 * 0))))))) by decide)
  have m15 : (1085102592571150095 : Int64).toBitVec.toNat = vb (bs.map fun _ => 15) := by
    match bs, hl with
    | [_, _, _, _, _, _, _, _], _ => exact (show (1085102592571150095 : Int64).toBitVec.toNat = 15 + 256 * (15 + 256 * (15 + 256 * (15 + 256 * (15 + 256 * (15 + 256 * (15 + 256 * (15 + 256 * 0))))))) by decide)
  have hp2 : 2 * vb (bs.map pr2) < 18446744073709551616 := by
    refine vb_half8 (by rw [List.length_map, hl]) ?_
    intro b hb
    obtain ⟨a, ha, rfl⟩ := List.mem_map.mp hb
    have := (pr_2 a (hbs a ha)).1
    omega
  unfold F_xJ13_bitCount_95d88
  simp only [nm_is]
  have u1 := l_ushr x ((Int32.toInt64 1).toUInt64 &&& Int64.toUInt64 63) 1 (by decide)
  have v1 : (x - ((Int64.toUInt64 x >>> ((Int32.toInt64 1).toUInt64 &&& Int64.toUInt64 63)).toInt64 &&& 6148914691236517205)).toBitVec.toNat = vb (bs.map pr1) := by
    have ha : ((Int64.toUInt64 x >>> ((Int32.toInt64 1).toUInt64 &&& Int64.toUInt64 63)).toInt64 &&& 6148914691236517205).toBitVec.toNat = (vb bs / 2) &&& vb (bs.map fun _ => 85) := by
      rw [l_and, u1, m85, hN, show (2 : Nat) ^ 1 = 2 from rfl]
    rw [l_sub (by rw [ha, hN, vb_1 _ hbs]; exact vb_le _ _ (fun b hb => (pr_1 b (hbs b hb)).1)), ha, hN, t1]
  generalize (x - ((Int64.toUInt64 x >>> ((Int32.toInt64 1).toUInt64 &&& Int64.toUInt64 63)).toInt64 &&& 6148914691236517205)) = y1 at v1 ⊢
  have u2 := l_ushr y1 ((Int32.toInt64 2).toUInt64 &&& Int64.toUInt64 63) 2 (by decide)
  have v2 : ((y1 &&& 3689348814741910323) + ((Int64.toUInt64 y1 >>> ((Int32.toInt64 2).toUInt64 &&& Int64.toUInt64 63)).toInt64 &&& 3689348814741910323)).toBitVec.toNat = vb (bs.map pr2) := by
    rw [l_add, l_and, l_and, u2, m51, v1, show (2 : Nat) ^ 2 = 4 from rfl, t2]
    exact Nat.mod_eq_of_lt (show vb (bs.map pr2) < 18446744073709551616 by omega)
  generalize ((y1 &&& 3689348814741910323) + ((Int64.toUInt64 y1 >>> ((Int32.toInt64 2).toUInt64 &&& Int64.toUInt64 63)).toInt64 &&& 3689348814741910323)) = y2 at v2 ⊢
  have u3 := l_ushr y2 ((Int32.toInt64 4).toUInt64 &&& Int64.toUInt64 63) 4 (by decide)
  have v3 : ((y2 + (Int64.toUInt64 y2 >>> ((Int32.toInt64 4).toUInt64 &&& Int64.toUInt64 63)).toInt64) &&& 1085102592571150095).toBitVec.toNat = vb (bs.map pr3) := by
    rw [l_and, l_add, u3, m15, v2, show (2 : Nat) ^ 4 = 16 from rfl, Nat.mod_eq_of_lt (show vb (bs.map pr2) + vb (bs.map pr2) / 16 < 18446744073709551616 by omega), t3]
  generalize ((y2 + (Int64.toUInt64 y2 >>> ((Int32.toInt64 4).toUInt64 &&& Int64.toUInt64 63)).toInt64) &&& 1085102592571150095) = y3 at v3 ⊢
  unfold popL
  rw [hN]
  clear t1 t2 t3 m85 m51 m15 hp2 u1 v1 u2 v2 u3 hN
  match bs, hl, hbs, v3 with
  | [b0, b1, b2, b3, b4, b5, b6, b7], _, hbs, v3 =>
    have hb0 : b0 < 256 := hbs b0 (by simp)
    have hb1 : b1 < 256 := hbs b1 (by simp)
    have hb2 : b2 < 256 := hbs b2 (by simp)
    have hb3 : b3 < 256 := hbs b3 (by simp)
    have hb4 : b4 < 256 := hbs b4 (by simp)
    have hb5 : b5 < 256 := hbs b5 (by simp)
    have hb6 : b6 < 256 := hbs b6 (by simp)
    have hb7 : b7 < 256 := hbs b7 (by simp)
    have hpop : fb_ct (fun k => (vb [b0, b1, b2, b3, b4, b5, b6, b7]).testBit k) 64 = pr3 b0 + pr3 b1 + pr3 b2 + pr3 b3 + pr3 b4 + pr3 b5 + pr3 b6 + pr3 b7 := by
      show fb_ct (fun k => (b0 + 256 * (b1 + 256 * (b2 + 256 * (b3 + 256 * (b4 + 256 * (b5 + 256 * (b6 + 256 * (b7 + 256 * 0)))))))).testBit k) (8 + (8 + (8 + (8 + (8 + (8 + (8 + (8 + 0)))))))) = _
      rw [ct_byte _ _ _ hb0, ct_byte _ _ _ hb1, ct_byte _ _ _ hb2, ct_byte _ _ _ hb3, ct_byte _ _ _ hb4, ct_byte _ _ _ hb5, ct_byte _ _ _ hb6, ct_byte _ _ _ hb7]
      show pr3 b0 + (pr3 b1 + (pr3 b2 + (pr3 b3 + (pr3 b4 + (pr3 b5 + (pr3 b6 + (pr3 b7 + 0))))))) = _
      omega
    rw [hpop]
    exact pop_tail (pr_38 b0 hb0) (pr_38 b1 hb1) (pr_38 b2 hb2) (pr_38 b3 hb3) (pr_38 b4 hb4) (pr_38 b5 hb5) (pr_38 b6 hb6) (pr_38 b7 hb7)
      (M0 := vb (List.map pr3 [b0, b1, b2, b3, b4, b5, b6, b7])) (M1 := vb (List.map pr3 [b1, b2, b3, b4, b5, b6, b7])) (M2 := vb (List.map pr3 [b2, b3, b4, b5, b6, b7])) (M3 := vb (List.map pr3 [b3, b4, b5, b6, b7])) (M4 := vb (List.map pr3 [b4, b5, b6, b7])) (M5 := vb (List.map pr3 [b5, b6, b7])) (M6 := vb (List.map pr3 [b6, b7])) (M7 := vb (List.map pr3 [b7]))
      rfl rfl rfl rfl rfl rfl rfl rfl v3 σ
theorem shr_0 {x : Int64} {c : Nat} (hc : c < 64) : (lg_cmp ((Int64.toUInt64 x >>> ((Int32.toInt64 (nI c)).toUInt64 &&& Int64.toUInt64 63)).toInt64) (0 : Int64) = 0) ↔ ∀ k, c ≤ k → x.toBitVec.toNat.testBit k = false := by
  have hs : (((Int32.toInt64 (nI c)).toUInt64 &&& Int64.toUInt64 63).toBitVec % 64).toNat = c := by
    have h : ∀ c, c < 64 → (((Int32.toInt64 (nI c)).toUInt64 &&& Int64.toUInt64 63).toBitVec % 64).toNat = c := by decide
    exact h c hc
  have hu := l_ushr x _ c hs
  rw [lg_cmp_eq]
  have h0 : ((Int64.toUInt64 x >>> ((Int32.toInt64 (nI c)).toUInt64 &&& Int64.toUInt64 63)).toInt64 = 0) ↔ x.toBitVec.toNat / 2 ^ c = 0 := by
    rw [← hu]
    constructor
    · intro e; rw [e]; rfl
    · intro e
      apply Int64.toBitVec_inj.mp
      apply BitVec.eq_of_toNat_eq
      rw [e]; rfl
  rw [h0]
  constructor
  · intro h k hk
    apply Nat.testBit_lt_two_pow
    have h1 : x.toBitVec.toNat < 2 ^ c := by
      have := Nat.div_eq_zero_iff.mp h
      rcases this with z | z
      · exact absurd z (by have := Nat.two_pow_pos c; omega)
      · exact z
    exact Nat.lt_of_lt_of_le h1 (Nat.pow_le_pow_right (by omega) hk)
  · intro h
    apply Nat.eq_of_testBit_eq
    intro k
    rw [Nat.zero_testBit, Nat.testBit_div_two_pow]
    exact h _ (by omega)
theorem xbit_0 {x : Int64} {k : Nat} (hk : k < 64) : (lg_cmp ((Int64.toUInt64 x >>> ((Int32.toInt64 (nI k)).toUInt64 &&& Int64.toUInt64 63)).toInt64 &&& (1 : Int64)) (0 : Int64) = 0) ↔ x.toBitVec.toNat.testBit k = false := by
  have hs : (((Int32.toInt64 (nI k)).toUInt64 &&& Int64.toUInt64 63).toBitVec % 64).toNat = k := by
    have h : ∀ c, c < 64 → (((Int32.toInt64 (nI c)).toUInt64 &&& Int64.toUInt64 63).toBitVec % 64).toNat = c := by decide
    exact h k hk
  have hu := l_ushr x _ k hs
  have h1 : ((Int64.toUInt64 x >>> ((Int32.toInt64 (nI k)).toUInt64 &&& Int64.toUInt64 63)).toInt64 &&& (1 : Int64)).toBitVec.toNat = (x.toBitVec.toNat.testBit k).toNat := by
    rw [l_and, hu, show (1 : Int64).toBitVec.toNat = 1 from rfl, Nat.and_one_is_mod, Nat.testBit_eq_decide_div_mod_eq]
    rcases Nat.mod_two_eq_zero_or_one (x.toBitVec.toNat / 2 ^ k) with h | h
    · rw [h]; rfl
    · rw [h]; rfl
  rw [lg_cmp_eq]
  constructor
  · intro e
    rw [e] at h1
    cases hb : x.toBitVec.toNat.testBit k with
    | false => rfl
    | true => rw [hb] at h1; cases h1
  · intro e
    apply Int64.toBitVec_inj.mp
    apply BitVec.eq_of_toNat_eq
    rw [h1, e]; rfl

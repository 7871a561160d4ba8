/-! ones of a number, and the JDK's count of them -/
theorem and_lo {v : Int32} {k : Nat} (hk : k < 32) : (v >>> (nI k &&& 31)) &&& 1 = nI (if v.toBitVec.toNat.testBit k then 1 else 0) := by
  have hs : ((nI k &&& 31 : Int32).toBitVec.smod 32).toNat = k := by
    have h : ∀ j, j < 32 → ((nI j &&& 31 : Int32).toBitVec.smod 32).toNat = j := by decide
    exact h k hk
  rw [pk_and (v >>> (nI k &&& 31)) (m := 1) 1 (by decide)]
  congr 1
  have h1 : (v >>> (nI k &&& 31)).toBitVec.toNat % 2 ^ 1 = ((v >>> (nI k &&& 31)).toBitVec.toNat.testBit 0).toNat := by
    generalize (v >>> (nI k &&& 31)).toBitVec.toNat = M
    rw [Nat.testBit_zero]
    rcases Nat.mod_two_eq_zero_or_one M with h | h
    · rw [show M % 2 ^ 1 = 0 from h]; rfl
    · rw [show M % 2 ^ 1 = 1 from h]; rfl
  rw [h1]
  have h2 : (v >>> (nI k &&& 31)).toBitVec.toNat.testBit 0 = v.toBitVec.toNat.testBit k := by
    show (v >>> (nI k &&& 31)).toBitVec.getLsbD 0 = v.toBitVec.getLsbD k
    rw [Int32.toBitVec_shiftRight, BitVec.sshiftRight', hs, BitVec.getLsbD_sshiftRight]
    simp [hk]
  rw [h2]
  cases v.toBitVec.toNat.testBit k <;> rfl
def pop (v : Int32) : Nat := fb_ct (fun k => v.toBitVec.toNat.testBit k) 32
theorem pop_le (v : Int32) : pop v ≤ 32 := fb_ct_le _ 32
/-- a number by its bytes, the lowest first -/
def vb : List Nat → Nat
  | [] => 0
  | b :: bs => b + 256 * vb bs
theorem land_split {a b c d : Nat} (hb : b < 256) (hd : d < 256) : (b + 256 * a) &&& (d + 256 * c) = (b &&& d) + 256 * (a &&& c) := by
  have hbd : b &&& d < 2 ^ 8 := Nat.and_lt_two_pow b (n := 8) hd
  apply Nat.eq_of_testBit_eq
  intro i
  rw [Nat.add_comm b, Nat.add_comm d, Nat.add_comm (b &&& d), Nat.testBit_and, show (256 : Nat) = 2 ^ 8 from rfl, Nat.testBit_two_pow_mul_add _ hb, Nat.testBit_two_pow_mul_add _ hd, Nat.testBit_two_pow_mul_add _ hbd]
  by_cases h : i < 8
  · rw [if_pos h, if_pos h, if_pos h, Nat.testBit_and]
  · rw [if_neg h, if_neg h, if_neg h, Nat.testBit_and]
theorem vb_add (f g : Nat → Nat) : ∀ bs : List Nat, vb (bs.map f) + vb (bs.map g) = vb (bs.map fun b => f b + g b)
  | [] => rfl
  | b :: bs => by
    have := vb_add f g bs
    show (f b + 256 * vb (bs.map f)) + (g b + 256 * vb (bs.map g)) = (f b + g b) + 256 * vb (bs.map fun b => f b + g b)
    omega
theorem vb_le (f : Nat → Nat) : ∀ bs : List Nat, (∀ b ∈ bs, f b ≤ b) → vb (bs.map f) ≤ vb bs
  | [], _ => Nat.le_refl _
  | b :: bs, h => by
    have := vb_le f bs (fun x hx => h x (List.mem_cons_of_mem _ hx))
    have := h b List.mem_cons_self
    show f b + 256 * vb (bs.map f) ≤ b + 256 * vb bs
    omega
theorem vb_sub (f : Nat → Nat) : ∀ bs : List Nat, (∀ b ∈ bs, f b ≤ b) → vb bs - vb (bs.map f) = vb (bs.map fun b => b - f b)
  | [], _ => rfl
  | b :: bs, h => by
    have h1 := vb_sub f bs (fun x hx => h x (List.mem_cons_of_mem _ hx))
    have h2 := vb_le f bs (fun x hx => h x (List.mem_cons_of_mem _ hx))
    have := h b List.mem_cons_self
    show (b + 256 * vb bs) - (f b + 256 * vb (bs.map f)) = (b - f b) + 256 * vb (bs.map fun b => b - f b)
    omega
theorem dec1 : ∀ e, e < 2 → ∀ b, b < 256 → (e * 128 + b / 2) &&& 85 = (b / 2) &&& 85 := by decide +kernel
theorem dec2 : ∀ e, e < 4 → ∀ b, b < 256 → (e * 64 + b / 4) &&& 51 = (b / 4) &&& 51 := by decide +kernel
theorem dec3 : ∀ e, e < 5 → ∀ b, b < 69 → (b + b / 16 + e * 16) &&& 15 = (b + b / 16) &&& 15 := by decide +kernel
theorem vb_1 : ∀ bs : List Nat, (∀ b ∈ bs, b < 256) → (vb bs / 2) &&& vb (bs.map fun _ => 85) = vb (bs.map fun b => (b / 2) &&& 85)
  | [], _ => rfl
  | b :: bs, h => by
    have ih := vb_1 bs (fun x hx => h x (List.mem_cons_of_mem _ hx))
    have hb := h b List.mem_cons_self
    show ((b + 256 * vb bs) / 2) &&& (85 + 256 * vb (bs.map fun _ => 85)) = ((b / 2) &&& 85) + 256 * vb (bs.map fun b => (b / 2) &&& 85)
    rw [show (b + 256 * vb bs) / 2 = (vb bs % 2 * 128 + b / 2) + 256 * (vb bs / 2) by omega, land_split (by omega) (by omega), ih, dec1 _ (by omega) b hb]
theorem vb_2 : ∀ bs : List Nat, (∀ b ∈ bs, b < 256) → vb bs &&& vb (bs.map fun _ => 51) = vb (bs.map fun b => b &&& 51)
  | [], _ => rfl
  | b :: bs, h => by
    have ih := vb_2 bs (fun x hx => h x (List.mem_cons_of_mem _ hx))
    have hb := h b List.mem_cons_self
    show (b + 256 * vb bs) &&& (51 + 256 * vb (bs.map fun _ => 51)) = (b &&& 51) + 256 * vb (bs.map fun b => b &&& 51)
    rw [land_split hb (by omega), ih]
theorem vb_3 : ∀ bs : List Nat, (∀ b ∈ bs, b < 256) → (vb bs / 4) &&& vb (bs.map fun _ => 51) = vb (bs.map fun b => (b / 4) &&& 51)
  | [], _ => rfl
  | b :: bs, h => by
    have ih := vb_3 bs (fun x hx => h x (List.mem_cons_of_mem _ hx))
    have hb := h b List.mem_cons_self
    show ((b + 256 * vb bs) / 4) &&& (51 + 256 * vb (bs.map fun _ => 51)) = ((b / 4) &&& 51) + 256 * vb (bs.map fun b => (b / 4) &&& 51)
    rw [show (b + 256 * vb bs) / 4 = (vb bs % 4 * 64 + b / 4) + 256 * (vb bs / 4) by omega, land_split (by omega) (by omega), ih, dec2 _ (by omega) b hb]
theorem vb_m16 : ∀ bs : List Nat, (∀ b ∈ bs, b < 69 ∧ b % 16 < 5) → vb bs % 16 < 5
  | [], _ => by decide
  | b :: bs, h => by
    have hb := h b List.mem_cons_self
    show (b + 256 * vb bs) % 16 < 5
    omega
theorem vb_4 : ∀ bs : List Nat, (∀ b ∈ bs, b < 69 ∧ b % 16 < 5) → (vb bs + vb bs / 16) &&& vb (bs.map fun _ => 15) = vb (bs.map fun b => (b + b / 16) &&& 15)
  | [], _ => rfl
  | b :: bs, h => by
    have ih := vb_4 bs (fun x hx => h x (List.mem_cons_of_mem _ hx))
    have hm := vb_m16 bs (fun x hx => h x (List.mem_cons_of_mem _ hx))
    have hb := h b List.mem_cons_self
    show ((b + 256 * vb bs) + (b + 256 * vb bs) / 16) &&& (15 + 256 * vb (bs.map fun _ => 15)) = ((b + b / 16) &&& 15) + 256 * vb (bs.map fun b => (b + b / 16) &&& 15)
    rw [show (b + 256 * vb bs) + (b + 256 * vb bs) / 16 = (b + b / 16 + vb bs % 16 * 16) + 256 * (vb bs + vb bs / 16) by omega, land_split (by omega) (by omega), ih, dec3 _ hm b hb.1]
/-- a byte's pairs, nibbles, ones -/
def pr1 (b : Nat) : Nat := b - ((b / 2) &&& 85)
def pr2 (b : Nat) : Nat := (pr1 b &&& 51) + ((pr1 b / 4) &&& 51)
def pr3 (b : Nat) : Nat := (pr2 b + pr2 b / 16) &&& 15
theorem pr_1 : ∀ b, b < 256 → ((b / 2) &&& 85) ≤ b ∧ pr1 b < 256 := by decide +kernel
theorem pr_2 : ∀ b, b < 256 → pr2 b < 69 ∧ pr2 b % 16 < 5 := by decide +kernel
theorem pr_3 : ∀ b, b < 256 → pr3 b = fb_ct (fun k => b.testBit k) 8 := by decide +kernel
theorem pr_38 (b : Nat) (h : b < 256) : pr3 b ≤ 8 := by rw [pr_3 b h]; exact fb_ct_le _ 8
theorem ct_byte (b M n : Nat) (hb : b < 256) : fb_ct (fun k => (b + 256 * M).testBit k) (8 + n) = pr3 b + fb_ct (fun k => M.testBit k) n := by
  rw [fb_ct_split, pr_3 b hb]
  congr 1
  · apply fb_ct_cong
    intro k hk
    show (b + 256 * M).testBit k = b.testBit k
    rw [Nat.add_comm, show (256 : Nat) = 2 ^ 8 from rfl, Nat.testBit_two_pow_mul_add _ hb, if_pos hk]
  · apply fb_ct_cong
    intro k hk
    show (b + 256 * M).testBit (8 + k) = M.testBit k
    rw [Nat.add_comm, show (256 : Nat) = 2 ^ 8 from rfl, Nat.testBit_two_pow_mul_add _ hb, if_neg (by omega), show 8 + k - 8 = k by omega]
/-- the first three turns of the count, over bytes -/
theorem pop_turns (bs : List Nat) (h : ∀ b ∈ bs, b < 256) :
    vb bs - ((vb bs / 2) &&& vb (bs.map fun _ => 85)) = vb (bs.map pr1) ∧
    ((vb (bs.map pr1)) &&& vb (bs.map fun _ => 51)) + ((vb (bs.map pr1) / 4) &&& vb (bs.map fun _ => 51)) = vb (bs.map pr2) ∧
    (vb (bs.map pr2) + vb (bs.map pr2) / 16) &&& vb (bs.map fun _ => 15) = vb (bs.map pr3) := by
  refine ⟨?_, ?_, ?_⟩
  · rw [vb_1 bs h, vb_sub (fun b => (b / 2) &&& 85) bs (fun b hb => (pr_1 b (h b hb)).1)]
    rfl
  · have h1 : ∀ b ∈ bs.map pr1, b < 256 := by
      intro b hb
      obtain ⟨x, hx, rfl⟩ := List.mem_map.mp hb
      exact (pr_1 x (h x hx)).2
    have e1 := vb_2 (bs.map pr1) h1
    have e2 := vb_3 (bs.map pr1) h1
    rw [List.map_map, List.map_map] at e1 e2
    have e0 : bs.map ((fun _ => 51) ∘ pr1) = bs.map (fun _ => 51) := rfl
    rw [e0] at e1 e2
    rw [e1, e2, vb_add]
    rfl
  · have h1 : ∀ b ∈ bs.map pr2, b < 69 ∧ b % 16 < 5 := by
      intro b hb
      obtain ⟨x, hx, rfl⟩ := List.mem_map.mp hb
      exact pr_2 x (h x hx)
    have e1 := vb_4 (bs.map pr2) h1
    rw [List.map_map, List.map_map] at e1
    have e0 : bs.map ((fun _ => 15) ∘ pr2) = bs.map (fun _ => 15) := rfl
    rw [e0] at e1
    rw [e1]
    rfl
theorem n_and (x y : Int32) : (x &&& y).toBitVec.toNat = x.toBitVec.toNat &&& y.toBitVec.toNat := by
  rw [Int32.toBitVec_and, BitVec.toNat_and]
theorem n_add (x y : Int32) : (x + y).toBitVec.toNat = (x.toBitVec.toNat + y.toBitVec.toNat) % 2 ^ 32 := by
  rw [Int32.toBitVec_add, BitVec.toNat_add]
theorem n_sub {x y : Int32} (h : y.toBitVec.toNat ≤ x.toBitVec.toNat) : (x - y).toBitVec.toNat = x.toBitVec.toNat - y.toBitVec.toNat := by
  rw [Int32.toBitVec_sub, BitVec.toNat_sub]
  have := x.toBitVec.isLt
  have := y.toBitVec.isLt
  omega
theorem n_of {x : Int32} {n : Nat} (hn : n < 2 ^ 32) (h : x.toBitVec.toNat = n) : x = nI n := by
  apply Int32.toBitVec_inj.mp
  apply BitVec.eq_of_toNat_eq
  rw [h, pk_tn hn]
theorem bc_is (x : Int32) (σ : St) : F_xJ6_bitCount_0f7a4 x σ = some (nI (pop x), σ) := by
  obtain ⟨N, hN⟩ : ∃ N, N = x.toBitVec.toNat := ⟨_, rfl⟩
  have hlt : N < 2 ^ 32 := by rw [hN]; exact x.toBitVec.isLt
  obtain ⟨b0, b1, b2, b3, hb0, hb1, hb2, hb3, hv⟩ : ∃ b0 b1 b2 b3 : Nat, b0 < 256 ∧ b1 < 256 ∧ b2 < 256 ∧ b3 < 256 ∧ N = vb [b0, b1, b2, b3] := by
    refine ⟨N % 256, N / 256 % 256, N / 65536 % 256, N / 16777216, by omega, by omega, by omega, by omega, ?_⟩
    show N = N % 256 + 256 * (N / 256 % 256 + 256 * (N / 65536 % 256 + 256 * (N / 16777216 + 256 * 0)))
    omega
  have hbs : ∀ b ∈ [b0, b1, b2, b3], b < 256 := by
    intro b hb
    simp only [List.mem_cons, List.not_mem_nil, or_false] at hb
    rcases hb with rfl | rfl | rfl | rfl <;> assumption
  obtain ⟨t1, t2, t3⟩ := pop_turns [b0, b1, b2, b3] hbs
  have p1 : ∀ b, b ∈ [b0, b1, b2, b3].map pr1 → b < 256 := by
    intro b hb
    obtain ⟨y, hy, rfl⟩ := List.mem_map.mp hb
    exact (pr_1 y (hbs y hy)).2
  have h38 := pr_38 b0 hb0
  have h381 := pr_38 b1 hb1
  have h382 := pr_38 b2 hb2
  have h383 := pr_38 b3 hb3
  have q0 := (pr_2 b0 hb0).1
  have q1 := (pr_2 b1 hb1).1
  have q2 := (pr_2 b2 hb2).1
  have q3 := (pr_2 b3 hb3).1
  have m85 : (1431655765 : Int32).toBitVec.toNat = vb ([b0, b1, b2, b3].map fun _ => 85) := by
    show (1431655765 : Int32).toBitVec.toNat = 85 + 256 * (85 + 256 * (85 + 256 * (85 + 256 * 0)))
    decide
  have m51 : (858993459 : Int32).toBitVec.toNat = vb ([b0, b1, b2, b3].map fun _ => 51) := by
    show (858993459 : Int32).toBitVec.toNat = 51 + 256 * (51 + 256 * (51 + 256 * (51 + 256 * 0)))
    decide
  have m15 : (252645135 : Int32).toBitVec.toNat = vb ([b0, b1, b2, b3].map fun _ => 15) := by
    show (252645135 : Int32).toBitVec.toNat = 15 + 256 * (15 + 256 * (15 + 256 * (15 + 256 * 0)))
    decide
  have hpop : pop x = pr3 b0 + pr3 b1 + pr3 b2 + pr3 b3 := by
    unfold pop
    rw [← hN, hv]
    show fb_ct (fun k => (b0 + 256 * (b1 + 256 * (b2 + 256 * (b3 + 256 * 0)))).testBit k) (8 + 24) = _
    rw [ct_byte _ _ _ hb0, show (24 : Nat) = 8 + 16 from rfl, ct_byte _ _ _ hb1, show (16 : Nat) = 8 + 8 from rfl, ct_byte _ _ _ hb2, show (8 : Nat) = 8 + 0 from rfl, ct_byte _ _ _ hb3]
    show pr3 b0 + (pr3 b1 + (pr3 b2 + (pr3 b3 + 0))) = _
    omega
  unfold F_xJ6_bitCount_0f7a4
  simp only [nm_is]
  have u1 := pk_ushr x 1 1 (by decide)
  have v1 : (x - ((x.toUInt32 >>> (Int32.toUInt32 1 &&& Int32.toUInt32 31)).toInt32 &&& 1431655765)).toBitVec.toNat = vb ([b0, b1, b2, b3].map pr1) := by
    have ha : ((x.toUInt32 >>> (Int32.toUInt32 1 &&& Int32.toUInt32 31)).toInt32 &&& 1431655765).toBitVec.toNat = (vb [b0, b1, b2, b3] / 2) &&& vb ([b0, b1, b2, b3].map fun _ => 85) := by
      rw [n_and, u1, m85, ← hN, hv]
    rw [n_sub (by rw [ha, ← hN, hv, vb_1 _ hbs]; exact vb_le _ _ (fun b hb => (pr_1 b (hbs b hb)).1)), ha, ← hN, hv, t1]
  generalize (x - ((x.toUInt32 >>> (Int32.toUInt32 1 &&& Int32.toUInt32 31)).toInt32 &&& 1431655765)) = y1 at v1 ⊢
  have u2 := pk_ushr y1 2 2 (by decide)
  have v2 : ((y1 &&& 858993459) + ((y1.toUInt32 >>> (Int32.toUInt32 2 &&& Int32.toUInt32 31)).toInt32 &&& 858993459)).toBitVec.toNat = vb ([b0, b1, b2, b3].map pr2) := by
    rw [n_add, n_and, n_and, u2, m51, v1, show (2 : Nat) ^ 2 = 4 from rfl, t2]
    apply Nat.mod_eq_of_lt
    show pr2 b0 + 256 * (pr2 b1 + 256 * (pr2 b2 + 256 * (pr2 b3 + 256 * 0))) < _
    omega
  generalize ((y1 &&& 858993459) + ((y1.toUInt32 >>> (Int32.toUInt32 2 &&& Int32.toUInt32 31)).toInt32 &&& 858993459)) = y2 at v2 ⊢
  have u3 := pk_ushr y2 4 4 (by decide)
  have v3 : ((y2 + (y2.toUInt32 >>> (Int32.toUInt32 4 &&& Int32.toUInt32 31)).toInt32) &&& 252645135).toBitVec.toNat = vb ([b0, b1, b2, b3].map pr3) := by
    rw [n_and, n_add, u3, m15, v2, show (2 : Nat) ^ 4 = 16 from rfl, Nat.mod_eq_of_lt, t3]
    show (pr2 b0 + 256 * (pr2 b1 + 256 * (pr2 b2 + 256 * (pr2 b3 + 256 * 0)))) + (pr2 b0 + 256 * (pr2 b1 + 256 * (pr2 b2 + 256 * (pr2 b3 + 256 * 0)))) / 16 < _
    omega
  generalize ((y2 + (y2.toUInt32 >>> (Int32.toUInt32 4 &&& Int32.toUInt32 31)).toInt32) &&& 252645135) = y3 at v3 ⊢
  have v3' : y3.toBitVec.toNat = pr3 b0 + 256 * (pr3 b1 + 256 * (pr3 b2 + 256 * (pr3 b3 + 256 * 0))) := v3
  have u4 := pk_ushr y3 8 8 (by decide)
  have v4 : (y3 + (y3.toUInt32 >>> (Int32.toUInt32 8 &&& Int32.toUInt32 31)).toInt32).toBitVec.toNat = (pr3 b0 + pr3 b1) + 256 * (pr3 b1 + pr3 b2) + 65536 * (pr3 b2 + pr3 b3) + 16777216 * pr3 b3 := by
    rw [n_add, u4, v3', show (2 : Nat) ^ 8 = 256 from rfl]
    omega
  generalize (y3 + (y3.toUInt32 >>> (Int32.toUInt32 8 &&& Int32.toUInt32 31)).toInt32) = y4 at v4 ⊢
  have u5 := pk_ushr y4 16 16 (by decide)
  have v5 : (y4 + (y4.toUInt32 >>> (Int32.toUInt32 16 &&& Int32.toUInt32 31)).toInt32).toBitVec.toNat % 2 ^ 6 = pr3 b0 + pr3 b1 + pr3 b2 + pr3 b3 := by
    rw [n_add, u5, v4, show (2 : Nat) ^ 16 = 65536 from rfl]
    clear u1 u2 u3 u4 u5 v1 v2 v3 v4 t1 t2 t3 hpop m85 m51 m15 p1
    generalize pr3 b0 = p0 at *
    generalize pr3 b1 = p1 at *
    generalize pr3 b2 = p2 at *
    generalize pr3 b3 = p3 at *
    have e1 : (p0 + p1 + 256 * (p1 + p2) + 65536 * (p2 + p3) + 16777216 * p3) / 65536 = p2 + p3 + 256 * p3 := by omega
    rw [e1]
    clear e1 v3' q0 q1 q2 q3 hv hlt hN
    omega
  rw [pk_and _ (m := 63) 6 (by decide), v5, hpop]

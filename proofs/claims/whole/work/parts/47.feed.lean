/-! feed -/
def byM (v s : Int32) : Int32 := vp_nar .byte ((Int32.toInt8 (v >>> (s &&& 31))).toInt32)
def byX (v s : Int32) : Int32 := vp_nar .byte ((Int32.toInt8 ((Int32.toUInt32 v >>> (Int32.toUInt32 s &&& Int32.toUInt32 31)).toInt32)).toInt32)
theorem by_bits (v : BitVec 32) {n : Nat} (hn : n ≤ 24) : (v >>> n).setWidth 8 = (v.sshiftRight n).setWidth 8 := by
  apply BitVec.eq_of_getLsbD_eq
  intro i hi
  rw [BitVec.getLsbD_setWidth, BitVec.getLsbD_setWidth, BitVec.getLsbD_ushiftRight, BitVec.getLsbD_sshiftRight]
  have h1 : n + i < 32 := by omega
  have h2 : ¬ 32 ≤ i := by omega
  simp [h1, h2]
theorem by_s (v s : Int32) (n : Nat) (hn : n ≤ 24) (h1 : ((Int32.toUInt32 s &&& Int32.toUInt32 31).toBitVec % 32).toNat = n) (h2 : ((s &&& 31).toBitVec.smod 32).toNat = n) : Int32.toInt8 ((Int32.toUInt32 v >>> (Int32.toUInt32 s &&& Int32.toUInt32 31)).toInt32) = Int32.toInt8 (v >>> (s &&& 31)) := by
  apply Int8.toBitVec_inj.mp
  rw [Int32.toBitVec_toInt8, Int32.toBitVec_toInt8, BitVec.signExtend_eq_setWidth_of_le _ (by omega), BitVec.signExtend_eq_setWidth_of_le _ (by omega)]
  show BitVec.setWidth 8 (Int32.toUInt32 v >>> (Int32.toUInt32 s &&& Int32.toUInt32 31)).toBitVec = BitVec.setWidth 8 (v >>> (s &&& 31)).toBitVec
  rw [UInt32.toBitVec_shiftRight, Int32.toBitVec_shiftRight, BitVec.ushiftRight_eq', BitVec.sshiftRight_eq', h1, h2]
  exact by_bits v.toBitVec hn
theorem by_24 (v : Int32) : byX v 24 = byM v 24 := by
  unfold byX byM
  rw [by_s v 24 24 (by omega) (by decide) (by decide)]
theorem by_16 (v : Int32) : byX v 16 = byM v 16 := by
  unfold byX byM
  rw [by_s v 16 16 (by omega) (by decide) (by decide)]
theorem by_8 (v : Int32) : byX v 8 = byM v 8 := by
  unfold byX byM
  rw [by_s v 8 8 (by omega) (by decide) (by decide)]
theorem by_0 (v : Int32) : byX v 0 = byM v 0 := by
  unfold byX byM
  rw [by_s v 0 0 (by omega) (by decide) (by decide)]
/-- four bytes more -/
def ap4 (bt : Nat → Int32) (L : Nat) (v : Int32) : Nat → Int32 := upd (upd (upd (upd bt L (byM v 24)) (L + 1) (byM v 16)) (L + 2) (byM v 8)) (L + 3) (byM v 0)
def bX (σ : St) (L : Nat) (b : Int32) : St := sA (sI σ 0 (nI (L + 1))) 2 (upd (σ.2.1 2) L b)
def bM (τ : St) (L : Nat) (b : Int32) : St := sA (sI τ 0 (nI (L + 1))) 1 (upd (τ.2.1 1) L b)
theorem x_put1 {n L : Nat} {v s : Int32} {σ : St} (h : σ.1 0 = nI L) (hL : L < 1200) {s' : Int32} (hs : ¬ s < 0) (e : s + (-8) = s') : F_xX9_append_3 (n + 1) v s σ = F_xX9_append_3 n v s' (bX σ L (byX v s)) := by
  rw [F_xX9_append_3, if_neg hs, h, if_neg (nI_pos (by omega)), if_neg (show ¬ (1200 : Int32) ≤ nI L from nI_ge (a := L) (b := 1200) hL (by omega)), if_pos (ib_nI hL (by omega)), nI_clamp (by omega), ← nI_succ, e]
  rfl
theorem m_put1 {b19 : Int32 → Int32 → Int32 → Int32 → Int32 → Int32 → St → Option (Int32 × St)} {n L : Nat} {x1 x2 x3 x4 x5 x6 v s : Int32} {τ : St} (h : τ.1 0 = nI L) (hL : L < 1200) {s' : Int32} (hs : ¬ s < 0) (e : s + (-8) = s') : F_mX11_feed_73 b19 (n + 1) x1 x2 x3 x4 x5 x6 v s τ = F_mX11_feed_73 b19 n x1 x2 x3 x4 x5 x6 v s' (bM τ L (byM v s)) := by
  rw [F_mX11_feed_73, if_neg hs, h, if_pos (ib_nI hL (by omega)), nI_clamp (by omega), ← nI_succ, e]
  rfl
theorem XT_put {L : Nat} {bt : Nat → Int32} {fk fp : Int32} {σ : St} (h : XT L bt fk fp σ) (b : Int32) : XT (L + 1) (upd bt L b) fk fp (bX σ L b) := by
  refine ⟨rfl, fun j hj => ?_, h.2.2.1, h.2.2.2⟩
  show upd (σ.2.1 2) L b j = _
  rw [u_is, u_is, h.2.1 j hj]
theorem MT_put {L : Nat} {bt : Nat → Int32} {fk fp : Int32} {τ : St} (h : MT L bt fk fp τ) (b : Int32) : MT (L + 1) (upd bt L b) fk fp (bM τ L b) := by
  refine ⟨rfl, fun j hj => ?_, h.2.2.1, h.2.2.2⟩
  show upd (τ.2.1 1) L b j = _
  rw [u_is, u_is, h.2.1 j hj]
theorem AX_put {q : Ab} {σ : St} (h : AX q σ) (b : Int32) : AX (aN (aG q 0 (upd (q.2.2.2 0) (q.1 0) b)) 0 (q.1 0 + 1)) (bX σ (q.1 0) b) := ⟨XT_put h.1 b, h.2⟩
theorem AM_put {q : Ab} {τ : St} (h : AM q τ) (b : Int32) : AM (aN (aG q 0 (upd (q.2.2.2 0) (q.1 0) b)) 0 (q.1 0 + 1)) (bM τ (q.1 0) b) := ⟨MT_put h.1 b, h.2⟩
/-- four bytes more, told of the whole -/
def aT (q : Ab) (L : Nat) (bt : Nat → Int32) : Ab := aN (aG q 0 bt) 0 L
theorem aT_aT (q : Ab) (L L' : Nat) (bt bt' : Nat → Int32) : aT (aT q L bt) L' bt' = aT q L' bt' := by
  show (vf_upd (vf_upd q.1 0 L) 0 L', q.2.1, q.2.2.1, vf_upd (vf_upd q.2.2.2 0 bt) 0 bt') = _
  rw [vf2, vf2]
  rfl
theorem AX_put' {q : Ab} {σ : St} {L : Nat} {bt : Nat → Int32} (h : AX (aT q L bt) σ) (b : Int32) : AX (aT q (L + 1) (upd bt L b)) (bX σ L b) := by
  have h2 : AX (aT (aT q L bt) (L + 1) (upd bt L b)) (bX σ L b) := AX_put h b
  rw [aT_aT] at h2
  exact h2
theorem AM_put' {q : Ab} {τ : St} {L : Nat} {bt : Nat → Int32} (h : AM (aT q L bt) τ) (b : Int32) : AM (aT q (L + 1) (upd bt L b)) (bM τ L b) := by
  have h2 : AM (aT (aT q L bt) (L + 1) (upd bt L b)) (bM τ L b) := AM_put h b
  rw [aT_aT] at h2
  exact h2
theorem x_app {q : Ab} {σ : St} {L : Nat} {bt : Nat → Int32} (h : AX (aT q L bt) σ) (hL : L + 4 ≤ 1200) (v : Int32) : ∃ σ', F_xX9_append v σ = some σ' ∧ AX (aT q (L + 4) (ap4 bt L v)) σ' := by
  have h1 := AX_put' h (byX v 24)
  have h2 := AX_put' h1 (byX v 16)
  have h3 := AX_put' h2 (byX v 8)
  have h4 := AX_put' h3 (byX v 0)
  have h5 := h4
  rw [by_24, by_16, by_8, by_0] at h5
  refine ⟨_, ?_, h5⟩
  · unfold F_xX9_append
    rw [FU_is, show (4096 : Nat) = 4091 + 1 + 1 + 1 + 1 + 1 from rfl, x_put1 (L := L) (s := 24) (s' := 16) h.1.1 (by omega) (by decide) rfl, x_put1 (L := L + 1) (s := 16) (s' := 8) h1.1.1 (by omega) (by decide) rfl, x_put1 (L := L + 2) (s := 8) (s' := 0) h2.1.1 (by omega) (by decide) rfl, x_put1 (L := L + 3) (s := 0) (s' := -8) h3.1.1 (by omega) (by decide) rfl, F_xX9_append_3, if_pos (by decide)]
    show some _ = some _
    rw [by_24, by_16, by_8, by_0]
theorem m_app {b19 : Int32 → Int32 → Int32 → Int32 → Int32 → Int32 → St → Option (Int32 × St)} {x1 x2 x3 x4 x5 x6 : Int32} {q : Ab} {τ : St} {L : Nat} {bt : Nat → Int32} (h : AM (aT q L bt) τ) (hL : L + 4 ≤ 1200) (v : Int32) : ∃ τ', F_mX11_feed_73 b19 FU x1 x2 x3 x4 x5 x6 v 24 τ = b19 x1 x2 x3 x4 x5 (x6 + 1) τ' ∧ AM (aT q (L + 4) (ap4 bt L v)) τ' := by
  have h1 := AM_put' h (byM v 24)
  have h2 := AM_put' h1 (byM v 16)
  have h3 := AM_put' h2 (byM v 8)
  have h4 := AM_put' h3 (byM v 0)
  refine ⟨_, ?_, h4⟩
  rw [FU_is, show (4096 : Nat) = 4091 + 1 + 1 + 1 + 1 + 1 from rfl, m_put1 (L := L) (s := 24) (s' := 16) h.1.1 (by omega) (by decide) rfl, m_put1 (L := L + 1) (s := 16) (s' := 8) h1.1.1 (by omega) (by decide) rfl, m_put1 (L := L + 2) (s := 8) (s' := 0) h2.1.1 (by omega) (by decide) rfl, m_put1 (L := L + 3) (s := 0) (s' := -8) h3.1.1 (by omega) (by decide) rfl, F_mX11_feed_73, if_pos (by decide)]
theorem api_feed (x1 x2 x3 x4 x5 : Int32) : API (F_xX10_feed x1 x2 x3 x4 x5) (F_mX11_feed x1 x2 x3 x4 x5) := by
  intro q hq
  have hL : q.1 0 ≤ 1200 := hq.1
  have hs : (nI (q.1 0) + 20 : Int32) = nI (q.1 0 + 20) := by
    rw [show (20 : Int32) = nI 20 from rfl, nI_add]
  by_cases h20 : q.1 0 + 20 ≤ 1200
  · have hq0 : aT q (q.1 0) (q.2.2.2 0) = q := by
      show (vf_upd q.1 0 (q.1 0), q.2.1, q.2.2.1, vf_upd q.2.2.2 0 (q.2.2.2 0)) = q
      rw [vf_self, vf_self]
    refine ⟨nI (q.1 0 + 20), aT q (q.1 0 + 20) (ap4 (ap4 (ap4 (ap4 (ap4 (q.2.2.2 0) (q.1 0) x1) (q.1 0 + 4) x2) (q.1 0 + 8) x3) (q.1 0 + 12) x4) (q.1 0 + 16) x5), ⟨h20, hq.2⟩, fun σ h => ?_, fun τ h => ?_⟩
    · rw [← hq0] at h
      obtain ⟨σ1, a1, b1⟩ := x_app h (by omega) x1
      obtain ⟨σ2, a2, b2⟩ := x_app b1 (by omega) x2
      obtain ⟨σ3, a3, b3⟩ := x_app b2 (by omega) x3
      obtain ⟨σ4, a4, b4⟩ := x_app b3 (by omega) x4
      obtain ⟨σ5, a5, b5⟩ := x_app b4 (by omega) x5
      refine ⟨σ5, ?_, b5⟩
      unfold F_xX10_feed F_xX9_hasRoomFor
      rw [show σ.1 0 = nI (q.1 0) from h.1.1, hs, if_neg (show ¬ (1200 : Int32) < nI (q.1 0 + 20) from fun z => absurd ((nI_ltI (a := 1200) (b := q.1 0 + 20) (by omega) (by omega)).mp z) (by omega)), bd_is, if_neg (by decide), a1, bv_is, a2, bv_is, a3, bv_is, a4, bv_is, a5, bv_is, show σ5.1 0 = nI (q.1 0 + 20) from b5.1.1]
    · rw [← hq0] at h
      unfold F_mX11_feed
      rw [show τ.1 0 = nI (q.1 0) from h.1.1, hs, if_pos (show nI (q.1 0 + 20) ≤ (1200 : Int32) from nI_le (a := q.1 0 + 20) (b := 1200) h20 (by omega))]
      obtain ⟨τ1, a1, b1⟩ := m_app (b19 := F_mX11_feed_19 4095) (x1 := x1) (x2 := x2) (x3 := x3) (x4 := x4) (x5 := x5) (x6 := 0) h (by omega) x1
      obtain ⟨τ2, a2, b2⟩ := m_app (b19 := F_mX11_feed_19 4094) (x1 := x1) (x2 := x2) (x3 := x3) (x4 := x4) (x5 := x5) (x6 := 1) b1 (by omega) x2
      obtain ⟨τ3, a3, b3⟩ := m_app (b19 := F_mX11_feed_19 4093) (x1 := x1) (x2 := x2) (x3 := x3) (x4 := x4) (x5 := x5) (x6 := 2) b2 (by omega) x3
      obtain ⟨τ4, a4, b4⟩ := m_app (b19 := F_mX11_feed_19 4092) (x1 := x1) (x2 := x2) (x3 := x3) (x4 := x4) (x5 := x5) (x6 := 3) b3 (by omega) x4
      obtain ⟨τ5, a5, b5⟩ := m_app (b19 := F_mX11_feed_19 4091) (x1 := x1) (x2 := x2) (x3 := x3) (x4 := x4) (x5 := x5) (x6 := 4) b4 (by omega) x5
      refine ⟨τ5, ?_, b5⟩
      rw [show F_mX11_feed_19 FU = F_mX11_feed_19 (4095 + 1) from by rw [FU_is], F_mX11_feed_19, if_neg (by decide), if_pos rfl, a1, show (0 : Int32) + 1 = 1 from rfl, show (4095 : Nat) = 4094 + 1 from rfl, F_mX11_feed_19, if_neg (by decide), if_neg (by decide), if_pos rfl, a2, show (1 : Int32) + 1 = 2 from rfl, show (4094 : Nat) = 4093 + 1 from rfl, F_mX11_feed_19, if_neg (by decide), if_neg (by decide), if_neg (by decide), if_pos rfl, a3, show (2 : Int32) + 1 = 3 from rfl, show (4093 : Nat) = 4092 + 1 from rfl, F_mX11_feed_19, if_neg (by decide), if_neg (by decide), if_neg (by decide), if_neg (by decide), if_pos rfl, a4, show (3 : Int32) + 1 = 4 from rfl, show (4092 : Nat) = 4091 + 1 from rfl, F_mX11_feed_19, if_neg (by decide), if_neg (by decide), if_neg (by decide), if_neg (by decide), if_neg (by decide), a5, show (4 : Int32) + 1 = 5 from rfl, show (4091 : Nat) = 4090 + 1 from rfl, F_mX11_feed_19, if_pos (by decide), show τ5.1 0 = nI (q.1 0 + 20) from b5.1.1]
  · refine ⟨-3, q, hq, fun σ h => ⟨σ, ?_, h⟩, fun τ h => ⟨τ, ?_, h⟩⟩
    · unfold F_xX10_feed F_xX9_hasRoomFor
      rw [h.1.1, hs, if_pos (show (1200 : Int32) < nI (q.1 0 + 20) from nI_lt (a := 1200) (b := q.1 0 + 20) (by omega) (by omega)), bd_is, if_pos rfl]
    · unfold F_mX11_feed
      rw [h.1.1, hs, if_neg (show ¬ nI (q.1 0 + 20) ≤ (1200 : Int32) from nI_ge (a := 1200) (b := q.1 0 + 20) (by omega) (by omega))]

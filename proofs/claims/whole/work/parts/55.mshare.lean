/-! the reference's sharing -/
theorem m8 {n : Nat} (hn : n < 40) : (8 : Int32) * nI n = nI (8 * n) := by
  have h : ∀ n, n < 40 → (8 : Int32) * nI n = nI (8 * n) := by decide
  exact h n hn
theorem m8k {n : Nat} (hn : n < 40) (k : Nat) : (8 : Int32) * nI n + nI k = nI (8 * n + k) := by rw [m8 hn, nI_add]
def MSh (c : Nat) (f4 f5 : Nat → Int32) (sN : Nat → Nat) (τ : St) : Prop := τ.1 24 = nI c ∧ ∀ n, n < c → τ.2.1 23 (8 * n + 4) = f4 n ∧ τ.2.1 23 (8 * n + 5) = f5 n ∧ τ.2.1 23 (8 * n + 7) = shI (sN n)
theorem m_sh14 {c : Nat} {f4 f5 : Nat → Int32} {sN : Nat → Nat} {τ : St} (hc : c ≤ 40) (hF : FOK c f4 f5) (hs : ∀ k, k < c → sN k ≤ 40) (h : MSh c f4 f5 sN τ) (b2 : Int32 → St → Option St) (x1 : Int32) : ∀ (f k : Nat), k ≤ c → c < f + k → F_mX11_share_14 b2 f x1 (ov (fsF (wtg f4 sN) (F4 f4) k)) (nI k) τ = (if ov (nxS c f4 sN) = -1 then some τ else F_mX11_share_102 b2 FU x1 (ov (nxS c f4 sN)) 0 0 τ) := by
  intro f
  induction f with
  | zero => intro k h1 h2; omega
  | succ f ih =>
    intro k h1 h2
    rw [F_mX11_share_14, h.1]
    by_cases e : c ≤ k
    · rw [if_pos (nI_le e (by omega)), show k = c by omega]
      rfl
    · have hk := h.2 k (by omega)
      rw [if_neg (nI_ge (by omega) (by omega)), show (8 : Int32) * nI k + 7 = nI (8 * k + 7) from m8k (by omega) 7, show (8 : Int32) * nI k + 4 = nI (8 * k + 4) from m8k (by omega) 4, if_pos (ib_nI (by omega) (by omega)), nI_clamp (n := 8 * k + 7) (by omega), nI_clamp (n := 8 * k + 4) (by omega), hk.1, hk.2.2, ← nI_succ]
      have ih' := ih (k + 1) (by omega) (by omega)
      unfold fsF at ih'
      by_cases h5 : sN k = 0
      · rw [if_pos ((shI_0 _ (by have := hs k (by omega); omega)).mpr h5), if_pos (ib_nI (by omega) (by omega))]
        by_cases h4 : f4 k = -1
        · rw [if_pos h4]
          rw [show wtg f4 sN k = false from decide_eq_false (fun z => z.2 h4), if_neg (by decide)] at ih'
          exact ih'
        · rw [if_neg h4]
          rw [show wtg f4 sN k = true from decide_eq_true ⟨h5, h4⟩, if_pos rfl] at ih'
          cases hf : fsF (wtg f4 sN) (F4 f4) k with
          | none =>
            rw [hf] at ih'
            rw [if_pos (show ov none = -1 from rfl)]
            exact ih'
          | some a =>
            rw [hf] at ih'
            obtain ⟨a1, a2, -⟩ := fsF_some k a hf
            have a2 := of_decide_eq_true a2
            rw [show ov (some a) = nI a from rfl, if_neg (fun z => by rw [i_eq, nI_toInt (by omega), show (-1 : Int32).toInt = -1 from rfl] at z; omega), show (8 : Int32) * nI a + 4 = nI (8 * a + 4) from m8k (by omega) 4, if_pos (ib_nI (by omega) (by omega)), nI_clamp (n := 8 * a + 4) (by omega), (h.2 a (by omega)).1]
            have hle := F4_le hF (a := a) (b := k) (by omega) (by omega) a2.2 h4
            by_cases h6 : F4 f4 a ≤ F4 f4 k
            · rw [if_pos (hle.mpr h6)]
              simp only [if_pos h6] at ih'
              exact ih'
            · rw [if_neg (fun z => h6 (hle.mp z))]
              simp only [if_neg h6] at ih'
              exact ih'
      · rw [if_neg (fun z => h5 ((shI_0 _ (by have := hs k (by omega); omega)).mp z))]
        rw [show wtg f4 sN k = false from decide_eq_false (fun z => h5 z.1), if_neg (by decide)] at ih'
        exact ih'
theorem bitL_1 {v : Int64} {k : Nat} (hk : k < 64) : (lg_cmp ((v >>> ((Int32.toInt64 (nI k)) &&& 63)) &&& (1 : Int64)) (1 : Int64) = 0) ↔ v.toBitVec.toNat.testBit k = true := by
  rw [lg_cmp_eq, and_loL hk]
  cases v.toBitVec.toNat.testBit k <;> decide
theorem m_sh165 {T : Nat → Bool} {n : Nat} (hn : n < 40) {τ : St} (b2 : Int32 → St → Option St) (x1 : Int32) {x3 : Int64} (h3 : ∀ s, s < 64 → x3.toBitVec.toNat.testBit s = T s) (hl : lfF T 40 0 < 40) : ∀ (f g s : Nat), g + s = 40 → g < f → lfF T g s = lfF T 40 0 → F_mX11_share_165 b2 f x1 (nI n) x3 (nI s) τ = b2 (x1 + 1) (sA τ 23 (upd (τ.2.1 23) (8 * n + 7) (nI (lfF T 40 0)))) := by
  intro f
  induction f with
  | zero => intro g s _ h; omega
  | succ f ih =>
    intro g s h1 h2 he
    rw [F_mX11_share_165]
    cases g with
    | zero =>
      have he : s = lfF T 40 0 := he
      omega
    | succ g =>
      rw [lfF] at he
      cases hT : T s with
      | true =>
        rw [hT, if_pos rfl] at he
        rw [if_pos ((bitL_1 (by omega)).mpr (by rw [h3 s (by omega)]; exact hT)), ← nI_succ]
        exact ih g (s + 1) (by omega) (by omega) he
      | false =>
        rw [hT, if_neg (by decide)] at he
        rw [if_neg (fun z => by
          have := (bitL_1 (by omega)).mp z
          rw [h3 s (by omega), hT] at this; cases this), show (8 : Int32) * nI n + 7 = nI (8 * n + 7) from m8k (by omega) 7, if_pos (ib_nI (by omega) (by omega)), nI_clamp (by omega), he]
theorem m_meet {c : Nat} {f4 f5 : Nat → Int32} {sN : Nat → Nat} {τ : St} (hc : c ≤ 40) (h : MSh c f4 f5 sN τ) {n k : Nat} (hn : n < c) (hk : k < c) : F_mX11_meet (nI n) (nI k) τ = some (if mtP f4 f5 n k then 1 else 0, τ) := by
  unfold F_mX11_meet
  rw [show (8 : Int32) * nI n + 4 = nI (8 * n + 4) from m8k (by omega) 4, show (8 : Int32) * nI k + 5 = nI (8 * k + 5) from m8k (by omega) 5, show (8 : Int32) * nI k + 4 = nI (8 * k + 4) from m8k (by omega) 4, show (8 : Int32) * nI n + 5 = nI (8 * n + 5) from m8k (by omega) 5, if_pos (ib_nI (by omega) (by omega)), if_pos (ib_nI (by omega) (by omega)), nI_clamp (n := 8 * k + 5) (by omega), nI_clamp (n := 8 * n + 4) (by omega), nI_clamp (n := 8 * n + 5) (by omega), nI_clamp (n := 8 * k + 4) (by omega), (h.2 n hn).1, (h.2 n hn).2.1, (h.2 k hk).1, (h.2 k hk).2.1]
  by_cases m2 : f5 k < f4 n
  · rw [if_pos m2, if_neg (fun z => by have := z.2; rw [i_lt] at m2; rw [i_le] at this; omega)]
  · rw [if_neg m2, if_pos (ib_nI (by omega) (by omega)), if_pos (ib_nI (by omega) (by omega))]
    by_cases m1 : f5 n < f4 k
    · rw [if_pos m1, if_neg (fun z => by have := z.1; rw [i_lt] at m1; rw [i_le] at this; omega)]
    · rw [if_neg m1, if_pos ⟨by rw [i_lt] at m1; rw [i_le]; omega, by rw [i_lt] at m2; rw [i_le]; omega⟩]
theorem m_sh102 {c : Nat} {f4 f5 : Nat → Int32} {sN : Nat → Nat} {τ : St} (hc : c ≤ 40) (hs : ∀ k, k < c → sN k ≤ 40) (h : MSh c f4 f5 sN τ) {n : Nat} (hn : n < c) (hl : lfS c f4 f5 n sN < 40) (b2 : Int32 → St → Option St) (x1 : Int32) : ∀ (f k : Nat) (x3 : Int64), k ≤ c → c < f + k → (∀ s, s < 64 → x3.toBitVec.toNat.testBit s = tkF f4 f5 n sN k s) → F_mX11_share_102 b2 f x1 (nI n) x3 (nI k) τ = b2 (x1 + 1) (sA τ 23 (upd (τ.2.1 23) (8 * n + 7) (nI (lfS c f4 f5 n sN)))) := by
  intro f
  induction f with
  | zero => intro k x3 h1 h2; omega
  | succ f ih =>
    intro k x3 h1 h2 hb
    rw [F_mX11_share_102, h.1]
    by_cases e : c ≤ k
    · rw [if_pos (nI_le e (by omega))]
      have e2 : k = c := by omega
      subst e2
      exact m_sh165 (by omega) b2 x1 hb hl FU 40 0 (by omega) (by rw [FU_is]; omega) rfl
    · have hk := h.2 k (by omega)
      have hsk := hs k (by omega)
      rw [if_neg (nI_ge (by omega) (by omega)), show (8 : Int32) * nI k + 7 = nI (8 * k + 7) from m8k (by omega) 7, if_pos (ib_nI (by omega) (by omega)), nI_clamp (n := 8 * k + 7) (by omega), hk.2.2, ← nI_succ]
      by_cases h0 : sN k = 0
      · rw [if_pos ((shI_0 _ (by omega)).mpr h0)]
        exact ih (k + 1) x3 (by omega) (by omega) (fun s hs2 => by rw [tkF, if_neg (fun z => z.1 h0)]; exact hb s hs2)
      · rw [if_neg (fun z => h0 ((shI_0 _ (by omega)).mp z)), m_meet hc h hn (by omega), bd_is]
        by_cases hm : mtP f4 f5 n k
        · rw [if_pos hm, if_neg (by decide), nm_is, hk.2.2, show shI (sN k) = nI (sN k - 1) by unfold shI; rw [if_neg h0]]
          refine ih (k + 1) _ (by omega) (by omega) (fun s hs2 => ?_)
          rw [orL (by omega), Nat.testBit_or, Nat.testBit_two_pow, hb s hs2, tkF, if_pos ⟨h0, hm⟩]
          by_cases e3 : s = sN k - 1
          · simp only [if_pos e3]; rw [e3]; simp
          · simp only [if_neg e3]
            rw [decide_eq_false (fun z => e3 z.symm), Bool.or_false]
        · rw [if_neg hm, if_pos rfl]
          exact ih (k + 1) x3 (by omega) (by omega) (fun s hs2 => by rw [tkF, if_neg (fun z => hm z.2)]; exact hb s hs2)
theorem m_sh2 {c : Nat} {f4 f5 : Nat → Int32} (hc : c ≤ 40) (hF : FOK c f4 f5) : ∀ (g f r : Nat) (sN : Nat → Nat) (τ : St), r ≤ c → unS c f4 sN ≤ g → unS c f4 sN ≤ r → r < f → SI c f4 f5 sN → MSh c f4 f5 sN τ →
    ∃ τ', F_mX11_share_2 f (nI (c - r)) τ = some τ' ∧ fr1 [] [23] τ τ' ∧ MSh c f4 f5 (shL c f4 f5 g sN) τ' ∧ ∀ j, j % 8 ≠ 7 → τ'.2.1 23 j = τ.2.1 23 j := by
  have hN40 : needN f4 f5 c c ≤ 40 := by
    refine needN_lo (fun n _ _ => ?_) c (Nat.le_refl _)
    rw [ovl_ct]
    exact Nat.le_trans (fb_ct_le _ _) hc
  intro g
  induction g with
  | zero =>
    intro f r sN τ hrc h1 h2 h3 hS hM
    have hno := un_0 (show unS c f4 sN = 0 by omega)
    obtain ⟨f, rfl⟩ : ∃ x, f = x + 1 := ⟨f - 1, by omega⟩
    refine ⟨τ, ?_, fr1.rf, hM, fun _ _ => rfl⟩
    rw [F_mX11_share_2, hM.1]
    by_cases e : r = 0
    · rw [if_pos (nI_le (by omega) (by omega))]
    · rw [if_neg (nI_ge (by omega) (by omega)), show F_mX11_share_14 (F_mX11_share_2 f) FU (nI (c - r)) (-1) 0 τ = _ from m_sh14 hc hF (fun k hk => Nat.le_trans (hS.2.2.2 k hk) hN40) hM (F_mX11_share_2 f) (nI (c - r)) FU 0 (by omega) (by rw [FU_is]; omega), hno, if_pos (show ov none = -1 from rfl)]
  | succ g ih =>
    intro f r sN τ hrc h1 h2 h3 hS hM
    obtain ⟨f, rfl⟩ : ∃ x, f = x + 1 := ⟨f - 1, by omega⟩
    have hs : ∀ k, k < c → sN k ≤ 40 := fun k hk => Nat.le_trans (hS.2.2.2 k hk) hN40
    rw [shL]
    cases hno : nxS c f4 sN with
    | none =>
      refine ⟨τ, ?_, fr1.rf, hM, fun _ _ => rfl⟩
      rw [F_mX11_share_2, hM.1]
      by_cases e : r = 0
      · rw [if_pos (nI_le (by omega) (by omega))]
      · rw [if_neg (nI_ge (by omega) (by omega)), show F_mX11_share_14 (F_mX11_share_2 f) FU (nI (c - r)) (-1) 0 τ = _ from m_sh14 hc hF hs hM (F_mX11_share_2 f) (nI (c - r)) FU 0 (by omega) (by rw [FU_is]; omega), hno, if_pos (show ov none = -1 from rfl)]
    | some n =>
      obtain ⟨s1, s2, s3, s4, s5, s6, s7⟩ := sh_step hc hF hS hno
      rw [F_mX11_share_2, hM.1, if_neg (nI_ge (by omega) (by omega)), show F_mX11_share_14 (F_mX11_share_2 f) FU (nI (c - r)) (-1) 0 τ = _ from m_sh14 hc hF hs hM (F_mX11_share_2 f) (nI (c - r)) FU 0 (by omega) (by rw [FU_is]; omega), hno, if_neg (fun z => by
        have z : nI n = -1 := z
        rw [i_eq, nI_toInt (by omega), show (-1 : Int32).toInt = -1 from rfl] at z; omega), show F_mX11_share_102 (F_mX11_share_2 f) FU (nI (c - r)) (ov (some n)) 0 0 τ = _ from m_sh102 hc hs hM s1 s4 (F_mX11_share_2 f) (nI (c - r)) FU 0 0 (by omega) (by rw [FU_is]; omega) (fun s _ => by
        show Nat.testBit 0 s = false
        exact Nat.zero_testBit s), ← nI_succ, show c - r + 1 = c - (r - 1) by omega]
      obtain ⟨τ2, b1, b2, b3, b4⟩ := ih f (r - 1) (shT c f4 f5 n sN) (sA τ 23 (upd (τ.2.1 23) (8 * n + 7) (nI (lfS c f4 f5 n sN)))) (by omega) (by omega) (by omega) (by omega) s6 ⟨hM.1, fun k hk => by
          refine ⟨?_, ?_, ?_⟩
          · show upd (τ.2.1 23) (8 * n + 7) (nI (lfS c f4 f5 n sN)) (8 * k + 4) = _
            rw [u_is, if_neg (by omega)]; exact (hM.2 k hk).1
          · show upd (τ.2.1 23) (8 * n + 7) (nI (lfS c f4 f5 n sN)) (8 * k + 5) = _
            rw [u_is, if_neg (by omega)]; exact (hM.2 k hk).2.1
          · show upd (τ.2.1 23) (8 * n + 7) (nI (lfS c f4 f5 n sN)) (8 * k + 7) = shI (if k = n then lfS c f4 f5 n sN + 1 else sN k)
            rw [u_is]
            by_cases e : k = n
            · rw [if_pos (by omega), if_pos e]; unfold shI; rw [if_neg (by omega)]; rfl
            · rw [if_neg (by omega), if_neg e]; exact (hM.2 k hk).2.2⟩
      refine ⟨τ2, b1, (fr1.rf.sA (by decide) : fr1 [] [23] τ _).tr b2, b3, fun j hj => ?_⟩
      rw [b4 j hj]
      show upd (τ.2.1 23) (8 * n + 7) (nI (lfS c f4 f5 n sN)) j = _
      rw [u_is, if_neg (fun z => hj (by omega))]

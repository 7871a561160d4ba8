/-! step -/
def ulF (w s : Nat) : Nat → Nat → Nat → Nat
  | 0, c, _ => c
  | f + 1, c, p => if c < w ∧ p ≠ 0 then ulF w s f (c + 1) ((p + s) % w) else c
def ulk (w s : Nat) : Nat := ulF w s 32 1 s
def mst (w s : Nat) : Nat → Nat × Bool
  | 0 => (0, true)
  | i + 1 => ((mst w s i).1 ||| 2 ^ (i * s % w), (mst w s i).2 && !(mst w s i).1.testBit (i * s % w))
def chk (w s u : Nat) : Nat → Nat → Nat → Bool → Bool
  | 0, _, _, _ => true
  | f + 1, i, T, fl => (fl == decide (i ≤ u)) && chk w s u f (i + 1) (T ||| 2 ^ (i * s % w)) (fl && !T.testBit (i * s % w))
theorem chk_ok {w s u : Nat} : ∀ f i, chk w s u f i (mst w s i).1 (mst w s i).2 = true → ∀ k, i ≤ k → k < i + f → (mst w s k).2 = decide (k ≤ u)
  | 0, i, _, k, h1, h2 => by omega
  | f + 1, i, h, k, h1, h2 => by
    unfold chk at h
    rw [Bool.and_eq_true] at h
    by_cases e : k = i
    · rw [e]; exact eq_of_beq h.1
    · exact chk_ok f (i + 1) h.2 k (by omega) (by omega)
theorem chk_all : ∀ w, w < 33 → 8 ≤ w → ∀ s, s < w → 1 ≤ s → chk w s (ulk w s) 33 0 0 true = true := by decide +kernel
theorem mst_is {w s n : Nat} (h1 : 8 ≤ w) (h2 : w ≤ 32) (h3 : 1 ≤ s) (h4 : s < w) (hn : n ≤ 32) : (mst w s n).2 = decide (n ≤ ulk w s) := chk_ok 33 0 (chk_all w (by omega) h1 s h4 h3) n (by omega) (by omega)
theorem mst_f {w s : Nat} {i : Nat} (h : (mst w s i).2 = false) : ∀ k, i ≤ k → (mst w s k).2 = false
  | 0, hk => by
    have : i = 0 := by omega
    rw [← this]; exact h
  | k + 1, hk => by
    by_cases e : i = k + 1
    · rw [← e]; exact h
    · show ((mst w s k).2 && _) = false
      rw [mst_f h k (by omega), Bool.false_and]
theorem ulF_le (w s : Nat) : ∀ f c p, ulF w s f c p ≤ c + f
  | 0, c, p => by unfold ulF; omega
  | f + 1, c, p => by
    unfold ulF
    have := ulF_le w s f (c + 1) ((p + s) % w)
    split <;> omega
theorem x_unl4 {w s : Nat} (hw : 8 ≤ w) (hw2 : w ≤ 32) (hs : s < w) {σ : St} (h7 : σ.1 7 = nI w) : ∀ (n f c p : Nat), c ≤ w → w ≤ f + c → f < n → p < w → F_xX1_unlikePlaces_4 n (nI s) (nI c) (nI p) σ = some (nI (ulF w s f c p), σ) := by
  intro n
  induction n with
  | zero => intro f c p _ _ h; omega
  | succ n ih =>
    intro f c p h1 h2 h3 hp
    rw [F_xX1_unlikePlaces_4, h7]
    by_cases h4 : w ≤ c
    · rw [if_pos (nI_le h4 (by omega))]
      cases f with
      | zero => rfl
      | succ f => rw [ulF, if_neg (by omega)]
    · obtain ⟨f, rfl⟩ : ∃ g, f = g + 1 := ⟨f - 1, by omega⟩
      rw [if_neg (nI_ge (by omega) (by omega)), ulF]
      by_cases h5 : p = 0
      · rw [h5, if_pos nI_0, if_neg (by omega)]
      · rw [if_neg (nI_ne0 (by omega) (by omega)), if_neg (nI_ne0 (by omega) (by omega)), if_pos ⟨by omega, h5⟩, nI_add, pk_rem (by omega) (by omega) (by omega), ← nI_succ]
        exact ih f (c + 1) _ (by omega) (by omega) (by omega) (Nat.mod_lt _ (by omega))
def stT (w n gap s : Nat) (z : Option (Nat × Nat)) : Option (Nat × Nat) := match z with
  | none => if n ≤ ulk w s then some (s, wt s w gap) else none
  | some a => if n ≤ ulk w s ∧ wt s w gap < a.2 then some (s, wt s w gap) else some a
/-- after the steps 1 .. k -/
def stS (w n gap : Nat) : Nat → Option (Nat × Nat)
  | 0 => none
  | k + 1 => stT w n gap (k + 1) (stS w n gap k)
theorem stS_lt {w n gap : Nat} (hw : 0 < w) : ∀ k a, stS w n gap k = some a → a.1 ≤ k ∧ a.2 < w
  | 0, a, h => by cases h
  | k + 1, a, h => by
    unfold stS stT at h
    have hl := wt_lt (p := k + 1) (t := gap) hw
    cases hz : stS w n gap k with
    | none =>
      rw [hz] at h
      by_cases h1 : n ≤ ulk w (k + 1)
      · simp only [if_pos h1] at h
        have e := Option.some.inj h
        rw [← e]; exact ⟨Nat.le_refl _, hl⟩
      · simp only [if_neg h1] at h
        cases h
    | some b =>
      rw [hz] at h
      have hb := stS_lt hw k b hz
      by_cases h1 : n ≤ ulk w (k + 1) ∧ wt (k + 1) w gap < b.2
      · simp only [if_pos h1] at h
        have e := Option.some.inj h
        rw [← e]; exact ⟨Nat.le_refl _, hl⟩
      · simp only [if_neg h1] at h
        have e := Option.some.inj h
        rw [← e]; exact ⟨by omega, hb.2⟩
def sb : Option (Nat × Nat) → Int32
  | none => -1
  | some a => nI a.1
def slX : Option (Nat × Nat) → Int32
  | none => 32
  | some a => nI a.2
theorem x_tab9 {w n gap : Nat} (hw : 8 ≤ w) (hw2 : w ≤ 32) (hn : n ≤ 32) (hg : gap ≤ 1000) {σ : St} (h7 : σ.1 7 = nI w) : ∀ (f k : Nat), k < w → w ≤ f + k → F_xX1_tableStep_9 f (nI n) (nI gap) (sb (stS w n gap k)) (slX (stS w n gap k)) (nI (k + 1)) σ = some (sb (stS w n gap (w - 1)), σ) := by
  intro f
  induction f with
  | zero => intro k h1 h2; omega
  | succ f ih =>
    intro k h1 h2
    rw [F_xX1_tableStep_9, h7]
    by_cases h3 : w ≤ k + 1
    · rw [if_pos (nI_le h3 (by omega)), show k = w - 1 by omega]
    · have hl := wt_lt (p := k + 1) (r := w) (t := gap) (by omega)
      have hu := ulF_le w (k + 1) 32 1 (k + 1)
      have e : (((k + 1 : Nat) : Int) - (gap : Int)) % (w : Int) = (((k + 1 : Nat) : Int) - (gap : Int)) % (w : Int) := rfl
      rw [if_neg (nI_ge (by omega) (by omega)), floorMod_is (a := ((k + 1 : Nat) : Int) - gap) (by omega) (by omega) (pk_sub_toInt (by omega) (by omega)), bd_is, show nI ((((k + 1 : Nat) : Int) - (gap : Int)) % (w : Int)).toNat = nI (wt (k + 1) w gap) from rfl]
      have ih' := ih (k + 1) (by omega) (by omega)
      rw [show stS w n gap (k + 1) = stT w n gap (k + 1) (stS w n gap k) from rfl] at ih'
      unfold stT at ih'
      have hul : F_xX1_unlikePlaces (nI (k + 1)) σ = some (nI (ulk w (k + 1)), σ) := by
        unfold F_xX1_unlikePlaces
        exact x_unl4 hw hw2 (by omega) h7 FU 32 1 (k + 1) (by omega) (by omega) (by rw [FU_is]; omega) (by omega)
      have hul2 : ulk w (k + 1) ≤ 33 := hu
      rw [← nI_succ]
      cases hz : stS w n gap k with
      | none =>
        rw [hz] at ih'
        rw [show slX none = 32 from rfl, if_neg (show ¬ (32 : Int32) ≤ nI (wt (k + 1) w gap) from nI_ge (a := wt (k + 1) w gap) (b := 32) (by omega) (by omega)), hul, bd_is]
        by_cases h4 : n ≤ ulk w (k + 1)
        · rw [if_neg (fun z => absurd ((nI_ltI (by omega) (by omega)).mp z) (by omega))]
          simp only [if_pos h4] at ih'
          exact ih'
        · rw [if_pos (nI_lt (by omega) (by omega))]
          simp only [if_neg h4] at ih'
          exact ih'
      | some a =>
        rw [hz] at ih'
        have ha := stS_lt (w := w) (by omega) k a hz
        rw [show slX (some a) = nI a.2 from rfl]
        by_cases h5 : a.2 ≤ wt (k + 1) w gap
        · rw [if_pos (nI_le h5 (by omega))]
          simp only [if_neg (show ¬ (n ≤ ulk w (k + 1) ∧ wt (k + 1) w gap < a.2) by omega)] at ih'
          exact ih'
        · rw [if_neg (nI_ge (by omega) (by omega)), hul, bd_is]
          by_cases h4 : n ≤ ulk w (k + 1)
          · rw [if_neg (fun z => absurd ((nI_ltI (by omega) (by omega)).mp z) (by omega))]
            simp only [if_pos (show (n ≤ ulk w (k + 1) ∧ wt (k + 1) w gap < a.2) by omega)] at ih'
            exact ih'
          · rw [if_pos (nI_lt (by omega) (by omega))]
            simp only [if_neg (show ¬ (n ≤ ulk w (k + 1) ∧ wt (k + 1) w gap < a.2) by omega)] at ih'
            exact ih'
def boI (b : Bool) : Int32 := if b then 1 else 0
theorem m_st50 {w n s : Nat} (hw : 8 ≤ w) (hw2 : w ≤ 32) (hn : n ≤ 32) (hs : s < w) {b32 : Int32 → Int32 → Int32 → Int32 → Int32 → St → Option (Int32 × St)} {x2 x3 x4 : Int32} {τ : St} (h8 : τ.1 8 = nI w) : ∀ (f i : Nat) (x6 : Int64), i ≤ n → n < f + i → x6.toBitVec.toNat = (mst w s i).1 → F_mX11_step_50 b32 f (nI n) x2 x3 x4 (nI s) x6 (boI (mst w s i).2) (nI i) τ = F_mX11_step_111 b32 (nI n) x2 x3 x4 (nI s) (boI (mst w s n).2) τ := by
  intro f
  induction f with
  | zero => intro i x6 h1 h2; omega
  | succ f ih =>
    intro i x6 h1 h2 h6
    rw [F_mX11_step_50]
    by_cases h3 : n ≤ i
    · rw [if_pos (nI_le h3 (by omega)), show i = n by omega]
    · rw [if_neg (nI_ge (by omega) (by omega))]
      cases hb : (mst w s i).2 with
      | false => rw [if_pos (show boI false = 0 from rfl), mst_f hb n (by omega)]
      | true =>
        have hm : i * s % w < w := Nat.mod_lt _ (by omega)
        have his : i * s ≤ 32 * 32 := Nat.mul_le_mul (by omega) (by omega)
        have hmul : nI i * nI s = nI (i * s) := by
          apply of_toInt (by omega)
          rw [fb_mulI (by rw [nI_toInt (by omega), nI_toInt (by omega)]; have : (0 : Int) ≤ (i : Int) * s := Int.mul_nonneg (by omega) (by omega); omega) (by rw [nI_toInt (by omega), nI_toInt (by omega)]; have : ((i * s : Nat) : Int) = (i : Int) * s := Int.natCast_mul i s; omega), nI_toInt (by omega), nI_toInt (by omega)]
          exact (Int.natCast_mul i s).symm
        rw [if_neg (by decide), h8, if_neg (nI_ne0 (by omega) (by omega)), hmul, pk_rem (by omega) (by omega) (by omega)]
        have hor : (x6 ||| ((1 : Int64) <<< ((Int32.toInt64 (nI (i * s % w))) &&& 63))).toBitVec.toNat = (mst w s (i + 1)).1 := by
          rw [orL (by omega), h6]; rfl
        have go : ∀ fl : Bool, fl = (mst w s (i + 1)).2 → F_mX11_step_86 b32 (F_mX11_step_50 b32 f) (nI n) x2 x3 x4 (nI s) x6 (nI i) (boI fl) τ = F_mX11_step_111 b32 (nI n) x2 x3 x4 (nI s) (boI (mst w s n).2) τ := by
          intro fl hfl
          unfold F_mX11_step_86
          rw [h8, if_neg (nI_ne0 (by omega) (by omega)), hmul, pk_rem (by omega) (by omega) (by omega), nm_is, ← nI_succ, hfl]
          exact ih (i + 1) _ (by omega) (by omega) hor
        have hfl : (mst w s (i + 1)).2 = !(mst w s i).1.testBit (i * s % w) := by
          show ((mst w s i).2 && _) = _
          rw [hb, Bool.true_and]
        by_cases hc : (mst w s i).1.testBit (i * s % w) = false
        · rw [if_pos ((bitL_0 (by omega)).mpr (by rw [h6]; exact hc))]
          exact go true (by rw [hfl, hc]; rfl)
        · rw [if_neg (fun z => hc (by rw [← h6]; exact (bitL_0 (by omega)).mp z))]
          exact go false (by rw [hfl]; simpa using hc)
def slM : Option (Nat × Nat) → Int32
  | none => 0
  | some a => nI a.2
theorem wt_m {w s gap : Nat} (hw : 8 ≤ w) (hw2 : w ≤ 32) (hs : s < w) (hg : gap ≤ 1000) : ((nI s - (nI gap - nI gap / nI w * nI w)) + nI w) - ((nI s - (nI gap - nI gap / nI w * nI w)) + nI w) / nI w * nI w = nI (wt s w gap) := by
  have hm : gap % w < w := Nat.mod_lt _ (by omega)
  rw [pk_rem (by omega) (by omega) (by omega)]
  have h1 : (nI s - nI (gap % w)).toInt = (s : Int) - ((gap % w : Nat) : Int) := pk_sub_toInt (by omega) (by omega)
  have h2 : (nI s - nI (gap % w)) + nI w = nI (s + w - gap % w) := by
    apply of_toInt (by omega)
    rw [fb_addI (by rw [h1, nI_toInt (by omega)]; omega) (by rw [h1, nI_toInt (by omega)]; omega), h1, nI_toInt (by omega)]
    omega
  rw [h2, pk_rem (by omega) (by omega) (by omega)]
  congr 1
  have h3 := wt_int (p := s) (t := gap) (r := w) (by omega)
  have h4 : (((s + w - gap % w) % w : Nat) : Int) = ((s : Int) - gap) % (w : Int) := by
    rw [Int.natCast_emod, show ((s + w - gap % w : Nat) : Int) = ((s : Int) - ((gap : Int) % (w : Int))) + (w : Int) by
      have : ((gap % w : Nat) : Int) = (gap : Int) % (w : Int) := Int.natCast_emod gap w
      omega, Int.add_emod_right, Int.sub_emod_emod]
  omega
theorem m_st32 {w n gap : Nat} (hw : 8 ≤ w) (hw2 : w ≤ 32) (hn : n ≤ 32) (hg : gap ≤ 1000) {τ : St} (h8 : τ.1 8 = nI w) : ∀ (f k : Nat), k < w → w ≤ f + k → F_mX11_step_32 f (nI n) (nI gap) (sb (stS w n gap k)) (slM (stS w n gap k)) (nI (k + 1)) τ = some (sb (stS w n gap (w - 1)), τ) := by
  intro f
  induction f with
  | zero => intro k h1 h2; omega
  | succ f ih =>
    intro k h1 h2
    rw [F_mX11_step_32, h8]
    by_cases h3 : w ≤ k + 1
    · rw [if_pos (nI_le h3 (by omega)), show k = w - 1 by omega]
    · have hl := wt_lt (p := k + 1) (r := w) (t := gap) (by omega)
      rw [if_neg (nI_ge (by omega) (by omega)), show F_mX11_step_50 (F_mX11_step_32 f) FU (nI n) (nI gap) (sb (stS w n gap k)) (slM (stS w n gap k)) (nI (k + 1)) 0 1 0 τ = _ from m_st50 (s := k + 1) hw hw2 hn (by omega) h8 FU 0 0 (by omega) (by rw [FU_is]; omega) rfl, mst_is hw hw2 (by omega) (by omega) hn]
      unfold F_mX11_step_111
      rw [h8, if_neg (nI_ne0 (by omega) (by omega)), wt_m hw hw2 (by omega) hg, nm_is, ← nI_succ]
      have ih' := ih (k + 1) (by omega) (by omega)
      rw [show stS w n gap (k + 1) = stT w n gap (k + 1) (stS w n gap k) from rfl] at ih'
      unfold stT at ih'
      by_cases h4 : n ≤ ulk w (k + 1)
      · rw [decide_eq_true h4, if_neg (by decide)]
        cases hz : stS w n gap k with
        | none =>
          rw [hz] at ih'
          simp only [if_pos h4] at ih'
          rw [if_pos (show sb none = -1 from rfl)]
          exact ih'
        | some a =>
          rw [hz] at ih'
          have ha := stS_lt (w := w) (by omega) k a hz
          rw [if_neg (show ¬ sb (some a) = -1 from fun z => by
            have z : nI a.1 = -1 := z
            rw [i_eq, nI_toInt (by omega), show (-1 : Int32).toInt = -1 from rfl] at z; omega)]
          by_cases h5 : wt (k + 1) w gap < a.2
          · rw [if_pos (show nI (wt (k + 1) w gap) < slM (some a) from nI_lt h5 (by omega))]
            simp only [if_pos (show (n ≤ ulk w (k + 1) ∧ wt (k + 1) w gap < a.2) by omega)] at ih'
            exact ih'
          · rw [if_neg (show ¬ nI (wt (k + 1) w gap) < slM (some a) from fun z => h5 ((nI_ltI (by omega) (by omega)).mp z))]
            simp only [if_neg (show ¬ (n ≤ ulk w (k + 1) ∧ wt (k + 1) w gap < a.2) by omega)] at ih'
            exact ih'
      · rw [decide_eq_false h4, if_pos (by decide)]
        cases hz : stS w n gap k with
        | none =>
          rw [hz] at ih'
          simp only [if_neg h4] at ih'
          exact ih'
        | some a =>
          rw [hz] at ih'
          simp only [if_neg (show ¬ (n ≤ ulk w (k + 1) ∧ wt (k + 1) w gap < a.2) by omega)] at ih'
          exact ih'
theorem api_step (x1 x2 : Int32) : API (F_xX10_step x1 x2) (F_mX11_step x1 x2) := by
  intro q hq
  have hd := hq.2.1
  have c1 : (1 : Int32).toInt = 1 := rfl
  have c2 : (2 : Int32).toInt = 2 := rfl
  have c3 : (32 : Int32).toInt = 32 := rfl
  have c4 : (1000 : Int32).toInt = 1000 := rfl
  by_cases ht : x1 < 2 ∨ 32 < x1
  · refine ⟨-2, q, hq, fun σ h => ⟨σ, ?_, h⟩, fun τ h => ⟨τ, ?_, h⟩⟩
    · unfold F_xX10_step
      by_cases h1 : x1 < 2
      · rw [if_pos h1]
      · rw [if_neg h1, if_pos (ht.resolve_left h1)]
    · unfold F_mX11_step
      rw [in_is, bd_is, if_pos ht, if_pos rfl]
  by_cases hg : x2 < 1 ∨ 1000 < x2
  · refine ⟨-2, q, hq, fun σ h => ⟨σ, ?_, h⟩, fun τ h => ⟨τ, ?_, h⟩⟩
    · unfold F_xX10_step
      rw [if_neg (fun z => ht (Or.inl z)), if_neg (fun z => ht (Or.inr z))]
      by_cases h1 : x2 < 1
      · rw [if_pos h1]
      · rw [if_neg h1, if_neg (fun z => by
          have h2 := hg.resolve_left h1
          rw [i_lt] at h2; rw [i_le] at z; omega)]
    · unfold F_mX11_step
      rw [in_is, bd_is, if_neg ht, if_neg (by decide), in_is, bd_is, if_pos hg, if_pos rfl]
  have ht1 : ¬ x1 < 2 := fun z => ht (Or.inl z)
  have ht2 : ¬ 32 < x1 := fun z => ht (Or.inr z)
  have hg1 : ¬ x2 < 1 := fun z => hg (Or.inl z)
  have hg2 : x2 ≤ 1000 := by
    have : ¬ 1000 < x2 := fun z => hg (Or.inr z)
    rw [i_lt] at this; rw [i_le]; omega
  obtain ⟨n, hn, rfl⟩ := nI_of (x := x1) (fun z => ht1 (by rw [i_lt] at z ⊢; rw [show (0 : Int32).toInt = 0 from rfl] at z; omega))
  obtain ⟨g, hgg, rfl⟩ := nI_of (x := x2) (fun z => hg1 (by rw [i_lt] at z ⊢; rw [show (0 : Int32).toInt = 0 from rfl] at z; omega))
  have bn : n ≤ 32 := by
    rw [i_lt, nI_toInt (by omega)] at ht2
    omega
  have bg : g ≤ 1000 := by
    rw [i_le, nI_toInt (by omega)] at hg2
    omega
  refine ⟨sb (stS (q.1 1) n g (q.1 1 - 1)), q, hq, fun σ h => ⟨σ, ?_, h⟩, fun τ h => ⟨τ, ?_, h⟩⟩
  · unfold F_xX10_step F_xX1_tableStep
    rw [if_neg ht1, if_neg ht2, if_neg hg1, if_pos hg2, show F_xX1_tableStep_9 FU (nI n) (nI g) (-1) 32 1 σ = _ from x_tab9 hd.1 hd.2.1 bn bg h.2.1.1 FU 0 (by have := hd.1; omega) (by have := hd.2.1; rw [FU_is]; omega), bd_is]
  · unfold F_mX11_step
    rw [in_is, bd_is, if_neg ht, if_neg (by decide), in_is, bd_is, if_neg hg, if_neg (by decide)]
    exact m_st32 hd.1 hd.2.1 bn bg h.2.1.1 FU 0 (by have := hd.1; omega) (by have := hd.2.1; rw [FU_is]; omega)

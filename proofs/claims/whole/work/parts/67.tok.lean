/-! what stands on the tape: bytes, signs, words, numbers -/
def nL (n : Nat) : Int64 := Int64.ofNat n
theorem nL_add (a b : Nat) : nL a + nL b = nL (a + b) := by
  unfold nL; rw [Int64.ofNat_add]
theorem nL_mul (a b : Nat) : nL a * nL b = nL (a * b) := by
  unfold nL; rw [Int64.ofNat_mul]
theorem nL_sub {a b : Nat} (h : b ≤ a) : nL a - nL b = nL (a - b) := by
  have e : a = (a - b) + b := by omega
  have h2 : nL a = nL (a - b) + nL b := by rw [nL_add, ← e]
  rw [h2, Int64.add_sub_cancel]
theorem nL_to {c : Nat} (h : c < 2 ^ 31) : Int32.toInt64 (nI c) = nL c := by
  apply Int64.toInt_inj.mp
  rw [Int32.toInt_toInt64, nI_toInt h]
  unfold nL
  rw [Int64.toInt_ofNat_of_lt (by omega)]
theorem nL_eq {a b : Nat} (ha : a < 2 ^ 62) (hb : b < 2 ^ 62) : nL a = nL b ↔ a = b := by
  constructor
  · intro e
    have h := congrArg Int64.toInt e
    unfold nL at h
    rw [Int64.toInt_ofNat_of_lt (by omega), Int64.toInt_ofNat_of_lt (by omega)] at h
    omega
  · intro e; rw [e]
def cn (bt : Nat → Int32) (p : Nat) : Nat := (bt p).toBitVec.toNat % 256
theorem cn_lt (bt : Nat → Int32) (p : Nat) : cn bt p < 256 := Nat.mod_lt _ (by decide)
def cbI (bt : Nat → Int32) (L p : Nat) : Int32 := if p < L then nI (cn bt p) else -1
def isL (bt : Nat → Int32) (L p : Nat) : Bool := decide (p < L ∧ 97 ≤ cn bt p ∧ cn bt p ≤ 122)
def isD (bt : Nat → Int32) (L p : Nat) : Bool := decide (p < L ∧ 48 ≤ cn bt p ∧ cn bt p ≤ 57)
def isB (bt : Nat → Int32) (L p : Nat) : Bool := decide (p < L ∧ (cn bt p = 32 ∨ cn bt p = 10))
def XB (L : Nat) (bt : Nat → Int32) (σ : St) : Prop := σ.1 0 = nI L ∧ ∀ j, j < 1200 → σ.2.1 2 j = bt j
def MB (L : Nat) (bt : Nat → Int32) (τ : St) : Prop := τ.1 1 = nI L ∧ ∀ j, j < 1200 → τ.2.1 1 j = bt j
theorem XB.fr {L : Nat} {bt : Nat → Int32} {σ σ' : St} {S Q : List Nat} (h : XB L bt σ) (hf : fr1 S Q σ σ') (h1 : 0 ∉ S) (h2 : 2 ∉ Q) : XB L bt σ' := ⟨(hf.1 0 h1).trans h.1, fun j hj => by rw [hf.2 2 h2]; exact h.2 j hj⟩
theorem MB.fr {L : Nat} {bt : Nat → Int32} {τ τ' : St} {S Q : List Nat} (h : MB L bt τ) (hf : fr1 S Q τ τ') (h1 : 1 ∉ S) (h2 : 1 ∉ Q) : MB L bt τ' := ⟨(hf.1 1 h1).trans h.1, fun j hj => by rw [hf.2 1 h2]; exact h.2 j hj⟩
theorem x_byteAt {L : Nat} {bt : Nat → Int32} (hL : L ≤ 1200) {σ : St} (h : XB L bt σ) {p : Nat} (hp : p < 2 ^ 31) : F_xX9_byteAt (nI p) σ = some (cbI bt L p, σ) := by
  unfold F_xX9_byteAt cbI
  rw [if_neg (nI_pos hp), h.1]
  by_cases e : p < L
  · rw [if_neg (nI_ge e (by omega)), if_pos (show nI p < (1200 : Int32) from nI_lt (b := 1200) (by omega) (by omega)), if_pos (ib_nI (by omega) (by omega)), nI_clamp hp, h.2 p (by omega), if_pos e, pk_and _ (m := 255) 8 (by decide)]
    rfl
  · rw [if_pos (nI_le (by omega) hp), if_neg e]
theorem m_see {L : Nat} {bt : Nat → Int32} (hL : L ≤ 1200) {τ : St} (h : MB L bt τ) {p : Nat} (hp : p < 2 ^ 31) : F_mX11_see (nI p) τ = some (cbI bt L p, τ) := by
  unfold F_mX11_see cbI
  rw [h.1]
  by_cases e : p < L
  · rw [if_neg (nI_ge e (by omega)), if_pos (ib_nI (by omega) (by omega)), nI_clamp hp, h.2 p (by omega), if_pos e, pk_and _ (m := 255) 8 (by decide)]
    rfl
  · rw [if_pos (nI_le (by omega) hp), if_neg e]
def b1 (b : Bool) : Int32 := if b then 1 else 0
theorem cls {bt : Nat → Int32} {L p lo hi : Nat} (hlo : lo < 256) (hhi : hi < 256) (σ : St) : (if cbI bt L p < nI lo then some ((0 : Int32), σ) else if nI hi < cbI bt L p then some (0, σ) else some (1, σ)) = some (b1 (decide (p < L ∧ lo ≤ cn bt p ∧ cn bt p ≤ hi)), σ) := by
  have hc := cn_lt bt p
  unfold cbI b1
  by_cases e : p < L
  · rw [if_pos e]
    by_cases e1 : cn bt p < lo
    · rw [if_pos (nI_lt e1 (by omega)), decide_eq_false (fun q => by omega)]; rfl
    · rw [if_neg (nI_nlt (by omega) (by omega))]
      by_cases e2 : hi < cn bt p
      · rw [if_pos (nI_lt e2 (by omega)), decide_eq_false (fun q => by omega)]; rfl
      · rw [if_neg (nI_nlt (by omega) (by omega)), decide_eq_true ⟨e, by omega, by omega⟩]; rfl
  · rw [if_neg e, decide_eq_false (fun q => e q.1)]
    by_cases e1 : (-1 : Int32) < nI lo
    · rw [if_pos e1]; rfl
    · exact absurd (i_lt.mpr (by rw [nI_toInt (by omega), show (-1 : Int32).toInt = -1 from rfl]; omega)) e1
theorem x_isL (bt : Nat → Int32) (L p : Nat) (σ : St) : F_xX9_isLetter (cbI bt L p) σ = some (b1 (isL bt L p), σ) := cls (lo := 97) (hi := 122) (by omega) (by omega) σ
theorem x_isD (bt : Nat → Int32) (L p : Nat) (σ : St) : F_xX9_isDigit (cbI bt L p) σ = some (b1 (isD bt L p), σ) := cls (lo := 48) (hi := 57) (by omega) (by omega) σ
theorem m_isL (bt : Nat → Int32) (L p : Nat) (σ : St) : F_mX11_isSmall (cbI bt L p) σ = some (b1 (isL bt L p), σ) := cls (lo := 97) (hi := 122) (by omega) (by omega) σ
theorem m_isD (bt : Nat → Int32) (L p : Nat) (σ : St) : F_mX11_isDigit (cbI bt L p) σ = some (b1 (isD bt L p), σ) := cls (lo := 48) (hi := 57) (by omega) (by omega) σ
theorem cb_eq {bt : Nat → Int32} {L p c : Nat} (hc : c < 256) : cbI bt L p = nI c ↔ p < L ∧ cn bt p = c := by
  have h := cn_lt bt p
  unfold cbI
  by_cases e : p < L
  · rw [if_pos e, nI_eq (by omega) (by omega)]
    exact ⟨fun q => ⟨e, q⟩, fun q => q.2⟩
  · rw [if_neg e]
    exact ⟨fun q => absurd q.symm (nI_m1 (by omega)), fun q => absurd q.1 e⟩
theorem cb_m1 {bt : Nat → Int32} {L p : Nat} : cbI bt L p = -1 ↔ ¬ p < L := by
  have h := cn_lt bt p
  unfold cbI
  by_cases e : p < L
  · rw [if_pos e]; exact ⟨fun q => absurd q (nI_m1 (by omega)), fun q => absurd e q⟩
  · rw [if_neg e]; exact ⟨fun _ => e, fun _ => rfl⟩
/-- the end of a run -/
def rE (P : Nat → Bool) : Nat → Nat → Nat
  | 0, p => p
  | n + 1, p => if P p then rE P n (p + 1) else p
theorem rE_ge (P : Nat → Bool) : ∀ n p, p ≤ rE P n p ∧ rE P n p ≤ p + n
  | 0, p => ⟨Nat.le_refl _, Nat.le_refl _⟩
  | n + 1, p => by
    unfold rE
    have := rE_ge P n (p + 1)
    split
    · omega
    · omega
theorem rE_in (P : Nat → Bool) : ∀ n p j, p ≤ j → j < rE P n p → P j = true
  | 0, p, j, h1, h2 => by unfold rE at h2; omega
  | n + 1, p, j, h1, h2 => by
    unfold rE at h2
    cases hP : P p with
    | true =>
      rw [hP, if_pos rfl] at h2
      by_cases e : j = p
      · rw [e]; exact hP
      · exact rE_in P n (p + 1) j (by omega) h2
    | false => rw [hP, if_neg (by decide)] at h2; omega
theorem rE_end (P : Nat → Bool) : ∀ n p, rE P n p < p + n → P (rE P n p) = false
  | 0, p, h => by unfold rE at h; omega
  | n + 1, p, h => by
    unfold rE at h ⊢
    cases hP : P p with
    | true => rw [hP, if_pos rfl] at h; rw [if_pos rfl]; exact rE_end P n (p + 1) (by omega)
    | false => rw [if_neg (by decide)]; exact hP
/-- a word's code, a number's value -/
def wvF (f : Nat → Nat) : Nat → Nat
  | 0 => 0
  | k + 1 => wvF f k * 32 + (f k - 96)
def nvF (f : Nat → Nat) : Nat → Nat
  | 0 => 0
  | k + 1 => nvF f k * 10 + (f k - 48)
theorem wv_lt (f : Nat → Nat) : ∀ k, (∀ j, j < k → 97 ≤ f j ∧ f j ≤ 122) → wvF f k < 32 ^ k
  | 0, _ => by show 0 < 1; omega
  | k + 1, h => by
    have h1 := wv_lt f k (fun j hj => h j (by omega))
    have h2 := h k (by omega)
    unfold wvF
    rw [Nat.pow_succ]
    omega
theorem wv_inj (f g : Nat → Nat) : ∀ k l, (∀ j, j < k → 97 ≤ f j ∧ f j ≤ 122) → (∀ j, j < l → 97 ≤ g j ∧ g j ≤ 122) → wvF f k = wvF g l → k = l ∧ ∀ j, j < k → f j = g j
  | 0, 0, _, _, _ => ⟨rfl, fun j h => by cases h⟩
  | 0, l + 1, _, h2, e => by
    have := h2 l (by omega)
    unfold wvF at e
    omega
  | k + 1, 0, h1, _, e => by
    have := h1 k (by omega)
    unfold wvF at e
    omega
  | k + 1, l + 1, h1, h2, e => by
    have a := h1 k (by omega)
    have b := h2 l (by omega)
    unfold wvF at e
    have e2 : wvF f k = wvF g l := by omega
    obtain ⟨e3, e4⟩ := wv_inj f g k l (fun j hj => h1 j (by omega)) (fun j hj => h2 j (by omega)) e2
    refine ⟨by omega, fun j hj => ?_⟩
    by_cases e5 : j = k
    · rw [e5, show g k = g l by rw [e3]]; omega
    · exact e4 j (by omega)
theorem wv_pos (f : Nat → Nat) {k : Nat} (hk : 0 < k) (h : ∀ j, j < k → 97 ≤ f j ∧ f j ≤ 122) : 0 < wvF f k := by
  obtain ⟨m, rfl⟩ : ∃ m, k = m + 1 := ⟨k - 1, by omega⟩
  have := h m (by omega)
  unfold wvF
  omega
theorem nv_lt (f : Nat → Nat) : ∀ k, (∀ j, j < k → 48 ≤ f j ∧ f j ≤ 57) → nvF f k < 10 ^ k
  | 0, _ => by show 0 < 1; omega
  | k + 1, h => by
    have h1 := nv_lt f k (fun j hj => h j (by omega))
    have h2 := h k (by omega)
    unfold nvF
    rw [Nat.pow_succ]
    omega
theorem cw_nI {a c : Nat} (h : 97 ≤ c) : (((nI a * 32) + nI c) - 97) + 1 = nI (a * 32 + (c - 96)) := by
  rw [show (32 : Int32) = nI 32 from rfl, show (97 : Int32) = nI 97 from rfl, pk_mul, nI_add, pk_sub (by omega), nI_1, show a * 32 + c - 97 + 1 = a * 32 + (c - 96) by omega]
theorem nw_nI {a c : Nat} (h : 48 ≤ c) : ((nI a * 10) + nI c) - 48 = nI (a * 10 + (c - 48)) := by
  rw [show (10 : Int32) = nI 10 from rfl, show (48 : Int32) = nI 48 from rfl, pk_mul, nI_add, pk_sub (by omega), show a * 10 + c - 48 = a * 10 + (c - 48) by omega]
theorem nw_nI' {a c : Nat} (h : 48 ≤ c) : ((10 * nI a) + nI c) - 48 = nI (a * 10 + (c - 48)) := by
  rw [Int32.mul_comm]; exact nw_nI h
theorem cw_nL {a c : Nat} (h : 97 ≤ c) (hc : c < 256) : ((((32 : Int64) * nL a) + Int32.toInt64 (nI c)) - (97 : Int64)) + (1 : Int64) = nL (a * 32 + (c - 96)) := by
  rw [nL_to (by omega), show (32 : Int64) = nL 32 from rfl, show (97 : Int64) = nL 97 from rfl, show (1 : Int64) = nL 1 from rfl, nL_mul, nL_add, nL_sub (by omega), nL_add, show 32 * a + c - 97 + 1 = a * 32 + (c - 96) by omega]
/-- what comes next: kind (0 end, 1 word, 2 number, 3 none of all; or the sign), start, end, content -/
abbrev Tk : Type := Nat × Nat × Nat × Nat
def tokS (bt : Nat → Int32) (L s : Nat) : Tk := if ¬ s < L then (0, s, s, 0) else if isL bt L s then (if rE (isL bt L) (L - s) s - s ≤ 6 then (1, s, rE (isL bt L) (L - s) s, wvF (fun j => cn bt (s + j)) (rE (isL bt L) (L - s) s - s)) else (3, s, rE (isL bt L) (L - s) s, 0)) else if isD bt L s then (if rE (isD bt L) (L - s) s - s ≤ 9 then (2, s, rE (isD bt L) (L - s) s, nvF (fun j => cn bt (s + j)) (rE (isD bt L) (L - s) s - s)) else (3, s, rE (isD bt L) (L - s) s, 0)) else if cn bt s = 58 ∨ cn bt s = 59 ∨ cn bt s = 61 ∨ cn bt s = 45 then (cn bt s, s, s + 1, 0) else (3, s, s + 1, 0)
def tokF (bt : Nat → Int32) (L p : Nat) : Tk := tokS bt L (rE (isB bt L) (L - p) p)
def TOa (bt : Nat → Int32) (L k s e v : Nat) : Prop := s ≤ e ∧ e ≤ L ∧ (k ≠ 0 → s < L ∧ s < e) ∧ (k = 1 → e - s ≤ 6 ∧ v = wvF (fun j => cn bt (s + j)) (e - s) ∧ (∀ j, j < e - s → 97 ≤ cn bt (s + j) ∧ cn bt (s + j) ≤ 122) ∧ 0 < v ∧ v < 2 ^ 30) ∧ (k = 2 → v < 1000000000) ∧ (k ≤ 3 ∨ ((k = 58 ∨ k = 59 ∨ k = 61 ∨ k = 45) ∧ cn bt s = k))
def TO (bt : Nat → Int32) (L : Nat) (T : Tk) : Prop := TOa bt L T.1 T.2.1 T.2.2.1 T.2.2.2
theorem tokS_ok {bt : Nat → Int32} {L s : Nat} (hs : s ≤ L) : TO bt L (tokS bt L s) := by
  unfold tokS
  by_cases e0 : s < L
  · rw [if_neg (fun q => q e0)]
    have gl := rE_ge (isL bt L) (L - s) s
    have gd := rE_ge (isD bt L) (L - s) s
    cases hl : isL bt L s with
    | true =>
      rw [if_pos rfl]
      have g1 : s < rE (isL bt L) (L - s) s := by
        obtain ⟨m, hm⟩ : ∃ m, L - s = m + 1 := ⟨L - s - 1, by omega⟩
        rw [hm]
        show s < (if isL bt L s then rE (isL bt L) m (s + 1) else s)
        rw [hl, if_pos rfl]
        have := rE_ge (isL bt L) m (s + 1)
        omega
      by_cases e1 : rE (isL bt L) (L - s) s - s ≤ 6
      · rw [if_pos e1]
        have hch : ∀ j, j < rE (isL bt L) (L - s) s - s → 97 ≤ cn bt (s + j) ∧ cn bt (s + j) ≤ 122 := by
          intro j hj
          have := rE_in (isL bt L) (L - s) s (s + j) (by omega) (by omega)
          unfold isL at this
          have := of_decide_eq_true this
          exact this.2
        show TOa bt L 1 s (rE (isL bt L) (L - s) s) (wvF (fun j => cn bt (s + j)) (rE (isL bt L) (L - s) s - s))
        refine ⟨by omega, by omega, fun _ => ⟨e0, g1⟩, fun _ => ⟨e1, rfl, hch, wv_pos _ (by omega) hch, ?_⟩, fun q => (by cases q), Or.inl (by omega)⟩
        refine Nat.lt_of_lt_of_le (wv_lt _ _ hch) ?_
        exact Nat.le_trans (Nat.pow_le_pow_right (by omega) e1) (by decide)
      · rw [if_neg e1]
        show TOa bt L 3 s (rE (isL bt L) (L - s) s) 0
        exact ⟨by omega, by omega, fun _ => ⟨e0, g1⟩, fun q => (by cases q), fun q => (by cases q), Or.inl (by omega)⟩
    | false =>
      rw [if_neg (by decide)]
      cases hd : isD bt L s with
      | true =>
        rw [if_pos rfl]
        have g1 : s < rE (isD bt L) (L - s) s := by
          obtain ⟨m, hm⟩ : ∃ m, L - s = m + 1 := ⟨L - s - 1, by omega⟩
          rw [hm]
          show s < (if isD bt L s then rE (isD bt L) m (s + 1) else s)
          rw [hd, if_pos rfl]
          have := rE_ge (isD bt L) m (s + 1)
          omega
        by_cases e1 : rE (isD bt L) (L - s) s - s ≤ 9
        · rw [if_pos e1]
          have hch : ∀ j, j < rE (isD bt L) (L - s) s - s → 48 ≤ cn bt (s + j) ∧ cn bt (s + j) ≤ 57 := by
            intro j hj
            have := rE_in (isD bt L) (L - s) s (s + j) (by omega) (by omega)
            unfold isD at this
            have := of_decide_eq_true this
            exact this.2
          show TOa bt L 2 s (rE (isD bt L) (L - s) s) (nvF (fun j => cn bt (s + j)) (rE (isD bt L) (L - s) s - s))
          refine ⟨by omega, by omega, fun _ => ⟨e0, g1⟩, fun q => (by cases q), fun _ => ?_, Or.inl (by omega)⟩
          refine Nat.lt_of_lt_of_le (nv_lt _ _ hch) ?_
          exact Nat.le_trans (Nat.pow_le_pow_right (by omega) e1) (by decide)
        · rw [if_neg e1]
          show TOa bt L 3 s (rE (isD bt L) (L - s) s) 0
          exact ⟨by omega, by omega, fun _ => ⟨e0, g1⟩, fun q => (by cases q), fun q => (by cases q), Or.inl (by omega)⟩
      | false =>
        rw [if_neg (by decide)]
        by_cases e1 : cn bt s = 58 ∨ cn bt s = 59 ∨ cn bt s = 61 ∨ cn bt s = 45
        · rw [if_pos e1]
          show TOa bt L (cn bt s) s (s + 1) 0
          exact ⟨by omega, by omega, fun _ => ⟨e0, by omega⟩, fun q => (by omega), fun q => (by omega), Or.inr ⟨e1, rfl⟩⟩
        · rw [if_neg e1]
          show TOa bt L 3 s (s + 1) 0
          exact ⟨by omega, by omega, fun _ => ⟨e0, by omega⟩, fun q => (by cases q), fun q => (by cases q), Or.inl (by omega)⟩
  · rw [if_pos e0]
    show TOa bt L 0 s s 0
    exact ⟨Nat.le_refl _, hs, fun q => absurd rfl q, fun q => (by cases q), fun q => (by cases q), Or.inl (by omega)⟩
theorem tokF_ok {bt : Nat → Int32} {L p : Nat} (hp : p ≤ L) : TO bt L (tokF bt L p) := by
  have := rE_ge (isB bt L) (L - p) p
  exact tokS_ok (by omega)
def XTk (T : Tk) (σ : St) : Prop := σ.1 1 = nI T.2.2.1 ∧ σ.1 2 = nI T.1 ∧ σ.1 3 = nI T.2.1 ∧ (T.1 = 1 ∨ T.1 = 2 → σ.1 4 = nI T.2.2.2)
def mkd (k : Nat) : Int32 := if k = 0 then 4 else if k = 1 then 1 else if k = 2 then 2 else if k = 3 then 0 else 3
def MTk (T : Tk) (τ : St) : Prop := τ.1 4 = nI T.2.2.1 ∧ τ.1 2 = mkd T.1 ∧ τ.1 3 = nI T.2.1 ∧ (T.1 = 1 → τ.2.2.1 0 = nL T.2.2.2) ∧ (T.1 = 2 → τ.1 5 = nI T.2.2.2)

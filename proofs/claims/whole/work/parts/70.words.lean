/-! words that are known -/
def sc (i j : Nat) : Nat := ((sByt.getD i []).getD j 0).toBitVec.toNat
def KC (i : Nat) : Nat := wvF (sc i) (sLen.getD i 0)
theorem sc_is : ∀ i, i < 17 → ∀ j, j < sLen.getD i 0 → strAt i (nI j) = nI (sc i j) := by decide +kernel
theorem sc_let : ∀ i, i < 15 → ∀ j, j < sLen.getD i 0 → 97 ≤ sc i j ∧ sc i j ≤ 122 := by decide +kernel
theorem KC_lt : ∀ i, i < 15 → KC i < 2 ^ 30 := by decide +kernel
theorem sL_lt : ∀ i, i < 17 → sLen.getD i 0 < 60 := by decide +kernel
theorem x_isw14 {i : Nat} (hi : i < 15) {v : Nat} (hv : v < 2 ^ 30) {σ : St} (h4 : σ.1 4 = nI v) : ∀ (n f k : Nat), k + n = sLen.getD i 0 → n < f → F_xX9_isWord_14 i f (nI (wvF (sc i) k)) (nI k) σ = some (b1 (decide (v = KC i)), σ) := by
  have hl := sL_lt i (by omega)
  intro n
  induction n with
  | zero =>
    intro f k hk hf
    match f, hf with
    | f + 1, _ =>
      have hkk : k = sLen.getD i 0 := by omega
      have hK := KC_lt i hi
      unfold F_xX9_isWord_14
      rw [h4, if_pos (nI_le (by omega) (by omega)), hkk]
      show (if nI (KC i) = nI v then _ else _) = _
      by_cases e : v = KC i
      · rw [if_pos (by rw [e]), decide_eq_true e]; rfl
      · rw [if_neg (fun q => e ((nI_eq (by omega) (by omega)).mp q).symm), decide_eq_false e]; rfl
  | succ n ih =>
    intro f k hk hf
    match f, hf with
    | f + 1, hf =>
      have hc := sc_let i hi k (by omega)
      unfold F_xX9_isWord_14 F_xX9_codeWith
      rw [if_neg (nI_ge (by omega) (by omega)), if_pos (ib_nI (by omega) (by omega)), sc_is i (by omega) k (by omega), bd_is, cw_nI hc.1, nI_1]
      exact ih f (k + 1) (by omega) (by omega)
def iw (T : Tk) (i : Nat) : Bool := decide (T.1 = 1 ∧ T.2.2.2 = KC i)
theorem x_isWord {bt : Nat → Int32} {L : Nat} {T : Tk} (hT : TO bt L T) {i : Nat} (hi : i < 15) {σ : St} (h : XTk T σ) : F_xX9_isWord i σ = some (b1 (iw T i), σ) := by
  unfold F_xX9_isWord iw
  rw [h.2.1]
  have hk : T.1 < 256 := by rcases hT.2.2.2.2.2 with q | q <;> omega
  by_cases e : T.1 = 1
  · have hv := (hT.2.2.2.1 e).2.2.2.2
    rw [if_pos (by rw [e]; rfl)]
    have hl := sL_lt i (by omega)
    rw [show F_xX9_isWord_14 i FU 0 0 σ = _ from x_isw14 hi hv (h.2.2.2 (Or.inl e)) (sLen.getD i 0) FU 0 (by omega) (by rw [FU_is]; omega)]
    have : decide (T.2.2.2 = KC i) = decide (T.1 = 1 ∧ T.2.2.2 = KC i) := by
      by_cases e2 : T.2.2.2 = KC i
      · rw [decide_eq_true e2, decide_eq_true ⟨e, e2⟩]
      · rw [decide_eq_false e2, decide_eq_false (fun q => e2 q.2)]
    rw [this]
  · rw [if_neg (show ¬ nI T.1 = 1 from fun q => e ((nI_eq (b := 1) (by omega) (by omega)).mp q)), decide_eq_false (fun q => e q.1)]
    rfl
def cmF (f g : Nat → Nat) : Nat → Nat → Bool
  | 0, _ => true
  | n + 1, j => if f j = g j then cmF f g n (j + 1) else false
theorem cm_iff (f g : Nat → Nat) : ∀ n j, cmF f g n j = true ↔ ∀ m, j ≤ m → m < j + n → f m = g m
  | 0, j => ⟨fun _ m h1 h2 => by omega, fun _ => rfl⟩
  | n + 1, j => by
    unfold cmF
    by_cases e : f j = g j
    · rw [if_pos e, cm_iff f g n (j + 1)]
      constructor
      · intro h m h1 h2
        by_cases q : m = j
        · rw [q]; exact e
        · exact h m (by omega) (by omega)
      · intro h m h1 h2
        exact h m (by omega) (by omega)
    · rw [if_neg e]
      exact ⟨fun q => (by cases q), fun h => absurd (h j (by omega) (by omega)) e⟩
theorem m_key66 {L : Nat} {bt : Nat → Int32} (hL : L ≤ 1200) {i : Nat} (hi : i < 17) (b17 : Int32 → Int32 → Int32 → St → Option (Int32 × St)) (x2 : Int32) {a b s e : Nat} {τ : St} (hB : MB L bt τ) (h3 : τ.1 3 = nI s) (h4 : τ.1 4 = nI e) (hse : s ≤ e) (he : e ≤ L) (hab : a + (e - s) ≤ b) (hb : b < sLen.getD i 0) : ∀ (n f j : Nat), j + n = e - s → n < f → F_mX11_keyOf_66 i b17 f x2 (nI a) (nI b) 1 (nI j) τ = F_mX11_keyOf_120 i b17 x2 (nI b) (b1 (cmF (fun j => sc i (a + j)) (fun j => cn bt (s + j)) n j)) τ := by
  have hl := sL_lt i hi
  intro n
  induction n with
  | zero =>
    intro f j hj hf
    match f, hf with
    | f + 1, _ =>
      unfold F_mX11_keyOf_66
      rw [h3, h4, pk_sub hse, if_pos (nI_le (by omega) (by omega))]
      rfl
  | succ n ih =>
    intro f j hj hf
    match f, hf with
    | f + 1, hf =>
      have hc := cn_lt bt (s + j)
      unfold F_mX11_keyOf_66 cmF
      rw [h3, h4, pk_sub hse, if_neg (nI_ge (by omega) (by omega)), if_neg (by decide), nI_add, if_pos (ib_nI (by omega) (by omega)), nI_add, m_see hL hB (by omega), bd_is, sc_is i hi _ (by omega), show cbI bt L (s + j) = nI (cn bt (s + j)) from if_pos (by omega), nI_1]
      have hs : sc i (a + j) < 2 ^ 31 := by
        have : ∀ i, i < 17 → ∀ j, j < sLen.getD i 0 → sc i j < 2 ^ 31 := by decide +kernel
        exact this i hi _ (by omega)
      by_cases e2 : sc i (a + j) = cn bt (s + j)
      · rw [if_pos (by rw [e2]), if_pos e2]
        exact ih f (j + 1) (by omega) (by omega)
      · rw [if_neg (fun q => e2 ((nI_eq hs (by omega)).mp q)), if_neg e2]
        match f, hf with
        | f + 1, _ =>
          unfold F_mX11_keyOf_66
          rw [h3, h4, pk_sub hse]
          split
          · rfl
          · rw [if_pos rfl]; rfl
theorem m_key17 {L : Nat} {bt : Nat → Int32} (hL : L ≤ 1200) {T : Tk} (hT : TO bt L T) (hk : T.1 = 1) {i : Nat} (hi : i < 17) {x2 a b : Nat} (hab : a < b) (hb : b < sLen.getD i 0) (hch : ∀ j, j < b - a → 97 ≤ sc i (a + j) ∧ sc i (a + j) ≤ 122) (hsp : sc i b = 32) {τ : St} (hB : MB L bt τ) (h : MTk T τ) : ∀ (n x4 f : Nat), a ≤ x4 → x4 + n = b → n < f → F_mX11_keyOf_17 i f (nI x2) (nI a) (nI x4) τ = if T.2.2.2 = wvF (fun j => sc i (a + j)) (b - a) then some (nI x2, τ) else F_mX11_keyOf_17 i (f - (n + 1)) (nI (x2 + 1)) (nI (b + 1)) (nI (b + 1)) τ := by
  have hl := sL_lt i hi
  have ho := hT.2.2.2.1 hk
  have hse := hT.1
  have heL := hT.2.1
  intro n
  induction n with
  | zero =>
    intro x4 f h1 h2 hf
    match f, hf with
    | f + 1, _ =>
      have hx : x4 = b := by omega
      obtain ⟨R, hR⟩ : ∃ R, R = F_mX11_keyOf_17 i f (nI (x2 + 1)) (nI (b + 1)) (nI (b + 1)) τ := ⟨_, rfl⟩
      rw [hx, show f + 1 - (0 + 1) = f by omega, ← hR]
      unfold F_mX11_keyOf_17
      rw [if_neg (nI_ge hb (by omega)), if_pos (ib_nI hb (by omega)), sc_is i hi b hb, hsp, if_pos (show nI 32 = (32 : Int32) from rfl), h.1, h.2.2.1, pk_sub (by omega), pk_sub hse]
      by_cases e : b - a = T.2.2.1 - T.2.1
      · rw [if_pos (by rw [e])]
        rw [show F_mX11_keyOf_66 i (F_mX11_keyOf_17 i f) FU (nI x2) (nI a) (nI b) 1 0 τ = _ from m_key66 hL hi (F_mX11_keyOf_17 i f) (nI x2) hB h.2.2.1 h.1 hse heL (by omega) hb (T.2.2.1 - T.2.1) FU 0 (by omega) (by rw [FU_is]; omega)]
        unfold F_mX11_keyOf_120
        by_cases e2 : T.2.2.2 = wvF (fun j => sc i (a + j)) (b - a)
        · rw [ho.2.1] at e2
          obtain ⟨-, e3⟩ := wv_inj _ _ _ _ ho.2.2.1 hch e2
          have hcm : cmF (fun j => sc i (a + j)) (fun j => cn bt (T.2.1 + j)) (T.2.2.1 - T.2.1) 0 = true := (cm_iff _ _ _ _).mpr (fun m _ hm => (e3 m (by omega)).symm)
          rw [hcm, if_neg (show ¬ b1 true = 0 by decide), if_pos (by rw [ho.2.1]; exact e2)]
        · rw [if_neg e2]
          have hcm : cmF (fun j => sc i (a + j)) (fun j => cn bt (T.2.1 + j)) (T.2.2.1 - T.2.1) 0 = false := by
            cases hq : cmF (fun j => sc i (a + j)) (fun j => cn bt (T.2.1 + j)) (T.2.2.1 - T.2.1) 0 with
            | false => rfl
            | true =>
              have h5 := (cm_iff _ _ _ _).mp hq
              refine absurd ?_ e2
              rw [ho.2.1, e]
              have wvc : ∀ (f g : Nat → Nat) (k : Nat), (∀ j, j < k → f j = g j) → wvF f k = wvF g k := by
                intro f g k
                induction k with
                | zero => intro _; rfl
                | succ k ih2 =>
                  intro hfg
                  show wvF f k * 32 + (f k - 96) = wvF g k * 32 + (g k - 96)
                  rw [ih2 (fun j hj => hfg j (by omega)), hfg k (by omega)]
              exact wvc _ _ _ (fun j hj => (h5 j (Nat.zero_le _) (by omega)).symm)
          rw [hcm, if_pos (show b1 false = 0 from rfl), nI_1, nI_1, hR]
      · rw [if_neg (fun q => e ((nI_eq (by omega) (by omega)).mp q))]
        have e2 : ¬ T.2.2.2 = wvF (fun j => sc i (a + j)) (b - a) := by
          intro q
          rw [ho.2.1] at q
          exact e (wv_inj _ _ _ _ ho.2.2.1 hch q).1.symm
        rw [if_neg e2]
        rw [FU_is]
        unfold F_mX11_keyOf_66 F_mX11_keyOf_120
        rw [nI_1, nI_1]
        split
        · rw [if_pos rfl, hR]
        · rw [if_pos rfl, if_pos rfl, hR]
  | succ n ih =>
    intro x4 f h1 h2 hf
    match f, hf with
    | f + 1, hf =>
      have hc := hch (x4 - a) (by omega)
      rw [show a + (x4 - a) = x4 by omega] at hc
      have ihx := ih (x4 + 1) f (by omega) (by omega) (by omega)
      obtain ⟨R, hR⟩ : ∃ R, R = F_mX11_keyOf_17 i (f - (n + 1)) (nI (x2 + 1)) (nI (b + 1)) (nI (b + 1)) τ := ⟨_, rfl⟩
      rw [← hR] at ihx
      rw [show f + 1 - (n + 1 + 1) = f - (n + 1) by omega, ← hR]
      unfold F_mX11_keyOf_17
      rw [if_neg (nI_ge (by omega) (by omega)), if_pos (ib_nI (by omega) (by omega)), sc_is i hi x4 (by omega), if_neg (show ¬ nI (sc i x4) = 32 from fun q => by
        have := (nI_eq (b := 32) (by omega) (by omega)).mp q
        omega), nI_1, ihx]
/-- a word's place among the words of drums; a word's place among the orders -/
def kyD (v : Nat) : Int32 := if v = KC 0 then 0 else if v = KC 3 then 1 else if v = KC 1 then 2 else if v = KC 2 then 3 else if v = KC 14 then 4 else -1
def kyO (v : Nat) : Int32 := if v = KC 4 then 0 else if v = KC 5 then 1 else if v = KC 6 then 2 else if v = KC 7 then 3 else if v = KC 8 then 4 else if v = KC 9 then 5 else if v = KC 10 then 6 else if v = KC 11 then 7 else if v = KC 12 then 8 else if v = KC 13 then 9 else -1
theorem m_key15 {L : Nat} {bt : Nat → Int32} (hL : L ≤ 1200) {T : Tk} (hT : TO bt L T) {τ : St} (hB : MB L bt τ) (h : MTk T τ) : F_mX11_keyOf 15 τ = some (if T.1 = 1 then kyD T.2.2.2 else -1, τ) := by
  have hk : T.1 < 256 := by rcases hT.2.2.2.2.2 with q | q <;> omega
  unfold F_mX11_keyOf kyD
  rw [h.2.1]
  by_cases e : T.1 = 1
  · rw [if_pos (show mkd T.1 = 1 by rw [e]; rfl), if_pos e]
    have s0 := m_key17 hL hT e (i := 15) (by omega) (x2 := 0) (a := 0) (b := 5) (by omega) (by decide) (by decide +kernel) (by decide +kernel) hB h 5 0 4096 (Nat.le_refl _) rfl (by omega)
    rw [show wvF (fun j => sc 15 (0 + j)) (5 - 0) = KC 0 by decide +kernel, show 4096 - (5 + 1) = 4090 from rfl] at s0
    have s1 := m_key17 hL hT e (i := 15) (by omega) (x2 := 1) (a := 6) (b := 10) (by omega) (by decide) (by decide +kernel) (by decide +kernel) hB h 4 6 4090 (Nat.le_refl _) rfl (by omega)
    rw [show wvF (fun j => sc 15 (6 + j)) (10 - 6) = KC 3 by decide +kernel, show 4090 - (4 + 1) = 4085 from rfl] at s1
    have s2 := m_key17 hL hT e (i := 15) (by omega) (x2 := 2) (a := 11) (b := 15) (by omega) (by decide) (by decide +kernel) (by decide +kernel) hB h 4 11 4085 (Nat.le_refl _) rfl (by omega)
    rw [show wvF (fun j => sc 15 (11 + j)) (15 - 11) = KC 1 by decide +kernel, show 4085 - (4 + 1) = 4080 from rfl] at s2
    have s3 := m_key17 hL hT e (i := 15) (by omega) (x2 := 3) (a := 16) (b := 21) (by omega) (by decide) (by decide +kernel) (by decide +kernel) hB h 5 16 4080 (Nat.le_refl _) rfl (by omega)
    rw [show wvF (fun j => sc 15 (16 + j)) (21 - 16) = KC 2 by decide +kernel, show 4080 - (5 + 1) = 4074 from rfl] at s3
    have s4 := m_key17 hL hT e (i := 15) (by omega) (x2 := 4) (a := 22) (b := 24) (by omega) (by decide) (by decide +kernel) (by decide +kernel) hB h 2 22 4074 (Nat.le_refl _) rfl (by omega)
    rw [show wvF (fun j => sc 15 (22 + j)) (24 - 22) = KC 14 by decide +kernel, show 4074 - (2 + 1) = 4071 from rfl] at s4
    have sz : F_mX11_keyOf_17 15 4071 (nI 5) (nI 25) (nI 25) τ = some (-1, τ) := by
      unfold F_mX11_keyOf_17
      rw [if_pos (show nI (sLen.getD 15 0) ≤ nI 25 by decide)]
    rw [show F_mX11_keyOf_17 15 FU 0 0 0 τ = _ from s0]
    by_cases e0 : T.2.2.2 = KC 0
    · rw [if_pos e0, if_pos e0]; rfl
    · rw [if_neg e0, if_neg e0, show F_mX11_keyOf_17 15 _ (nI (0 + 1)) (nI (5 + 1)) (nI (5 + 1)) τ = _ from s1]
      by_cases e1 : T.2.2.2 = KC 3
      · rw [if_pos e1, if_pos e1]; rfl
      · rw [if_neg e1, if_neg e1, show F_mX11_keyOf_17 15 _ (nI (1 + 1)) (nI (10 + 1)) (nI (10 + 1)) τ = _ from s2]
        by_cases e2 : T.2.2.2 = KC 1
        · rw [if_pos e2, if_pos e2]; rfl
        · rw [if_neg e2, if_neg e2, show F_mX11_keyOf_17 15 _ (nI (2 + 1)) (nI (15 + 1)) (nI (15 + 1)) τ = _ from s3]
          by_cases e3 : T.2.2.2 = KC 2
          · rw [if_pos e3, if_pos e3]; rfl
          · rw [if_neg e3, if_neg e3, show F_mX11_keyOf_17 15 _ (nI (3 + 1)) (nI (21 + 1)) (nI (21 + 1)) τ = _ from s4]
            by_cases e4 : T.2.2.2 = KC 14
            · rw [if_pos e4, if_pos e4]; rfl
            · rw [if_neg e4, if_neg e4]; exact sz
  · have hm : ¬ mkd T.1 = 1 := by
      unfold mkd
      by_cases q0 : T.1 = 0
      · rw [if_pos q0]; decide
      · rw [if_neg q0, if_neg e]
        by_cases q2 : T.1 = 2
        · rw [if_pos q2]; decide
        · rw [if_neg q2]
          by_cases q3 : T.1 = 3
          · rw [if_pos q3]; decide
          · rw [if_neg q3]; decide
    rw [if_neg hm, if_neg e]
theorem m_key16 {L : Nat} {bt : Nat → Int32} (hL : L ≤ 1200) {T : Tk} (hT : TO bt L T) {τ : St} (hB : MB L bt τ) (h : MTk T τ) : F_mX11_keyOf 16 τ = some (if T.1 = 1 then kyO T.2.2.2 else -1, τ) := by
  have hk : T.1 < 256 := by rcases hT.2.2.2.2.2 with q | q <;> omega
  unfold F_mX11_keyOf kyO
  rw [h.2.1]
  by_cases e : T.1 = 1
  · rw [if_pos (show mkd T.1 = 1 by rw [e]; rfl), if_pos e]
    have s0 := m_key17 hL hT e (i := 16) (by omega) (x2 := 0) (a := 0) (b := 4) (by omega) (by decide) (by decide +kernel) (by decide +kernel) hB h 4 0 4096 (Nat.le_refl _) rfl (by omega)
    rw [show wvF (fun j => sc 16 (0 + j)) (4 - 0) = KC 4 by decide +kernel, show 4096 - (4 + 1) = 4091 from rfl] at s0
    have s1 := m_key17 hL hT e (i := 16) (by omega) (x2 := 1) (a := 5) (b := 9) (by omega) (by decide) (by decide +kernel) (by decide +kernel) hB h 4 5 4091 (Nat.le_refl _) rfl (by omega)
    rw [show wvF (fun j => sc 16 (5 + j)) (9 - 5) = KC 5 by decide +kernel, show 4091 - (4 + 1) = 4086 from rfl] at s1
    have s2 := m_key17 hL hT e (i := 16) (by omega) (x2 := 2) (a := 10) (b := 13) (by omega) (by decide) (by decide +kernel) (by decide +kernel) hB h 3 10 4086 (Nat.le_refl _) rfl (by omega)
    rw [show wvF (fun j => sc 16 (10 + j)) (13 - 10) = KC 6 by decide +kernel, show 4086 - (3 + 1) = 4082 from rfl] at s2
    have s3 := m_key17 hL hT e (i := 16) (by omega) (x2 := 3) (a := 14) (b := 18) (by omega) (by decide) (by decide +kernel) (by decide +kernel) hB h 4 14 4082 (Nat.le_refl _) rfl (by omega)
    rw [show wvF (fun j => sc 16 (14 + j)) (18 - 14) = KC 7 by decide +kernel, show 4082 - (4 + 1) = 4077 from rfl] at s3
    have s4 := m_key17 hL hT e (i := 16) (by omega) (x2 := 4) (a := 19) (b := 24) (by omega) (by decide) (by decide +kernel) (by decide +kernel) hB h 5 19 4077 (Nat.le_refl _) rfl (by omega)
    rw [show wvF (fun j => sc 16 (19 + j)) (24 - 19) = KC 8 by decide +kernel, show 4077 - (5 + 1) = 4071 from rfl] at s4
    have s5 := m_key17 hL hT e (i := 16) (by omega) (x2 := 5) (a := 25) (b := 30) (by omega) (by decide) (by decide +kernel) (by decide +kernel) hB h 5 25 4071 (Nat.le_refl _) rfl (by omega)
    rw [show wvF (fun j => sc 16 (25 + j)) (30 - 25) = KC 9 by decide +kernel, show 4071 - (5 + 1) = 4065 from rfl] at s5
    have s6 := m_key17 hL hT e (i := 16) (by omega) (x2 := 6) (a := 31) (b := 34) (by omega) (by decide) (by decide +kernel) (by decide +kernel) hB h 3 31 4065 (Nat.le_refl _) rfl (by omega)
    rw [show wvF (fun j => sc 16 (31 + j)) (34 - 31) = KC 10 by decide +kernel, show 4065 - (3 + 1) = 4061 from rfl] at s6
    have s7 := m_key17 hL hT e (i := 16) (by omega) (x2 := 7) (a := 35) (b := 39) (by omega) (by decide) (by decide +kernel) (by decide +kernel) hB h 4 35 4061 (Nat.le_refl _) rfl (by omega)
    rw [show wvF (fun j => sc 16 (35 + j)) (39 - 35) = KC 11 by decide +kernel, show 4061 - (4 + 1) = 4056 from rfl] at s7
    have s8 := m_key17 hL hT e (i := 16) (by omega) (x2 := 8) (a := 40) (b := 45) (by omega) (by decide) (by decide +kernel) (by decide +kernel) hB h 5 40 4056 (Nat.le_refl _) rfl (by omega)
    rw [show wvF (fun j => sc 16 (40 + j)) (45 - 40) = KC 12 by decide +kernel, show 4056 - (5 + 1) = 4050 from rfl] at s8
    have s9 := m_key17 hL hT e (i := 16) (by omega) (x2 := 9) (a := 46) (b := 51) (by omega) (by decide) (by decide +kernel) (by decide +kernel) hB h 5 46 4050 (Nat.le_refl _) rfl (by omega)
    rw [show wvF (fun j => sc 16 (46 + j)) (51 - 46) = KC 13 by decide +kernel, show 4050 - (5 + 1) = 4044 from rfl] at s9
    have sz : F_mX11_keyOf_17 16 4044 (nI 10) (nI 52) (nI 52) τ = some (-1, τ) := by
      unfold F_mX11_keyOf_17
      rw [if_pos (show nI (sLen.getD 16 0) ≤ nI 52 by decide)]
    rw [show F_mX11_keyOf_17 16 FU 0 0 0 τ = _ from s0]
    by_cases e0 : T.2.2.2 = KC 4
    · rw [if_pos e0, if_pos e0]; rfl
    · rw [if_neg e0, if_neg e0, show F_mX11_keyOf_17 16 _ (nI (0 + 1)) (nI (4 + 1)) (nI (4 + 1)) τ = _ from s1]
      by_cases e1 : T.2.2.2 = KC 5
      · rw [if_pos e1, if_pos e1]; rfl
      · rw [if_neg e1, if_neg e1, show F_mX11_keyOf_17 16 _ (nI (1 + 1)) (nI (9 + 1)) (nI (9 + 1)) τ = _ from s2]
        by_cases e2 : T.2.2.2 = KC 6
        · rw [if_pos e2, if_pos e2]; rfl
        · rw [if_neg e2, if_neg e2, show F_mX11_keyOf_17 16 _ (nI (2 + 1)) (nI (13 + 1)) (nI (13 + 1)) τ = _ from s3]
          by_cases e3 : T.2.2.2 = KC 7
          · rw [if_pos e3, if_pos e3]; rfl
          · rw [if_neg e3, if_neg e3, show F_mX11_keyOf_17 16 _ (nI (3 + 1)) (nI (18 + 1)) (nI (18 + 1)) τ = _ from s4]
            by_cases e4 : T.2.2.2 = KC 8
            · rw [if_pos e4, if_pos e4]; rfl
            · rw [if_neg e4, if_neg e4, show F_mX11_keyOf_17 16 _ (nI (4 + 1)) (nI (24 + 1)) (nI (24 + 1)) τ = _ from s5]
              by_cases e5 : T.2.2.2 = KC 9
              · rw [if_pos e5, if_pos e5]; rfl
              · rw [if_neg e5, if_neg e5, show F_mX11_keyOf_17 16 _ (nI (5 + 1)) (nI (30 + 1)) (nI (30 + 1)) τ = _ from s6]
                by_cases e6 : T.2.2.2 = KC 10
                · rw [if_pos e6, if_pos e6]; rfl
                · rw [if_neg e6, if_neg e6, show F_mX11_keyOf_17 16 _ (nI (6 + 1)) (nI (34 + 1)) (nI (34 + 1)) τ = _ from s7]
                  by_cases e7 : T.2.2.2 = KC 11
                  · rw [if_pos e7, if_pos e7]; rfl
                  · rw [if_neg e7, if_neg e7, show F_mX11_keyOf_17 16 _ (nI (7 + 1)) (nI (39 + 1)) (nI (39 + 1)) τ = _ from s8]
                    by_cases e8 : T.2.2.2 = KC 12
                    · rw [if_pos e8, if_pos e8]; rfl
                    · rw [if_neg e8, if_neg e8, show F_mX11_keyOf_17 16 _ (nI (8 + 1)) (nI (45 + 1)) (nI (45 + 1)) τ = _ from s9]
                      by_cases e9 : T.2.2.2 = KC 13
                      · rw [if_pos e9, if_pos e9]; rfl
                      · rw [if_neg e9, if_neg e9]; exact sz
  · have hm : ¬ mkd T.1 = 1 := by
      unfold mkd
      by_cases q0 : T.1 = 0
      · rw [if_pos q0]; decide
      · rw [if_neg q0, if_neg e]
        by_cases q2 : T.1 = 2
        · rw [if_pos q2]; decide
        · rw [if_neg q2]
          by_cases q3 : T.1 = 3
          · rw [if_pos q3]; decide
          · rw [if_neg q3]; decide
    rw [if_neg hm, if_neg e]

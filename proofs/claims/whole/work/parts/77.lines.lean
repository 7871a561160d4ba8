/-! a program's lines, read on both sides -/
/-- code of the name, whether a number, the number, the order, code and place of its word, code and place of its next -/
abbrev Ln : Type := Nat × Bool × Int32 × Nat × Nat × Nat × Nat × Nat
abbrev lc (x : Ln) : Nat := x.1
abbrev ln (x : Ln) : Bool := x.2.1
abbrev lv (x : Ln) : Int32 := x.2.2.1
abbrev lo (x : Ln) : Nat := x.2.2.2.1
abbrev la (x : Ln) : Nat := x.2.2.2.2.1
abbrev lpa (x : Ln) : Nat := x.2.2.2.2.2.1
abbrev lb (x : Ln) : Nat := x.2.2.2.2.2.2.1
abbrev lpb (x : Ln) : Nat := x.2.2.2.2.2.2.2
def na (x : Ln) : Nat := if la x = 0 then 0 else 1
def nbb (x : Ln) : Nat := if lb x = 0 then 0 else 1
def ncF (D : Nat → Ln) : Nat → Nat
  | 0 => 0
  | l + 1 => ncF D l + (na (D l) + nbb (D l))
theorem na_le (x : Ln) : na x ≤ 1 := by unfold na; split <;> omega
theorem nbb_le (x : Ln) : nbb x ≤ 1 := by unfold nbb; split <;> omega
theorem nc_le (D : Nat → Ln) : ∀ l, ncF D l ≤ 2 * l
  | 0 => Nat.le_refl _
  | l + 1 => by
    have := nc_le D l
    have := na_le (D l)
    have := nbb_le (D l)
    unfold ncF
    omega
theorem nc_mono (D : Nat → Ln) {a b : Nat} (h : a ≤ b) : ncF D a ≤ ncF D b := by
  induction b with
  | zero => rw [show a = 0 by omega]; exact Nat.le_refl _
  | succ b ih =>
    by_cases e : a = b + 1
    · rw [e]; exact Nat.le_refl _
    · have := ih (by omega)
      show ncF D a ≤ ncF D b + (na (D b) + nbb (D b))
      omega
theorem nc_upd (D : Nat → Ln) (n : Nat) (x : Ln) : ∀ l, l ≤ n → ncF (vf_upd D n x) l = ncF D l
  | 0, _ => rfl
  | l + 1, h => by
    unfold ncF
    rw [nc_upd D n x l (by omega)]
    unfold vf_upd
    rw [if_neg (by omega)]
def LX (x : Ln) (l : Nat) (σ : St) : Prop := σ.2.1 19 l = nI (lc x) ∧ (ln x = true → σ.2.1 24 l = -1 ∧ σ.2.1 16 l = lv x) ∧ (ln x = false → σ.2.1 24 l = nI (lo x) ∧ σ.2.1 20 l = nI (la x) ∧ σ.2.1 21 l = nI (lb x) ∧ (la x ≠ 0 → σ.2.1 22 l = nI (lpa x)) ∧ (lb x ≠ 0 → σ.2.1 23 l = nI (lpb x)))
def LM (x : Ln) (j l : Nat) (τ : St) : Prop := τ.2.2.2 8 l = nL (lc x) ∧ (ln x = true → τ.2.1 9 l = lv x ∧ τ.2.1 10 l = -2) ∧ (ln x = false → τ.2.1 9 l = nI (lo x) ∧ τ.2.1 10 l = (if la x = 0 then -1 else nI j) ∧ τ.2.1 11 l = (if lb x = 0 then -1 else nI (j + na x))) ∧ (la x ≠ 0 → τ.2.2.2 12 j = nL (la x) ∧ τ.2.1 13 j = nI (lpa x)) ∧ (lb x ≠ 0 → τ.2.2.2 12 (j + na x) = nL (lb x) ∧ τ.2.1 13 (j + na x) = nI (lpb x))
def LO (x : Ln) : Prop := 0 < lc x ∧ lc x < 2 ^ 30 ∧ lo x ≤ 9 ∧ la x < 2 ^ 30 ∧ lb x < 2 ^ 30 ∧ lpa x ≤ 1200 ∧ lpb x ≤ 1200 ∧ (ln x = true → la x = 0 ∧ lb x = 0)
def PR (D : Nat → Ln) (n : Nat) (σ τ : St) : Prop := τ.1 15 = nI (ncF D n) ∧ n ≤ 40 ∧ ∀ l, l < n → LO (D l) ∧ LX (D l) l σ ∧ LM (D l) (ncF D l) l τ
def AgX (n : Nat) (σ0 σ : St) : Prop := ∀ a l, l < n → σ.2.1 a l = σ0.2.1 a l
def AgM (n m : Nat) (τ0 τ : St) : Prop := (∀ a, a ≠ 13 → ∀ l, l < n → τ.2.1 a l = τ0.2.1 a l) ∧ (∀ j, j < m → τ.2.1 13 j = τ0.2.1 13 j) ∧ (∀ l, l < n → τ.2.2.2 8 l = τ0.2.2.2 8 l) ∧ ∀ j, j < m → τ.2.2.2 12 j = τ0.2.2.2 12 j
theorem AgX.rf {n : Nat} {σ : St} : AgX n σ σ := fun _ _ _ => rfl
theorem AgM.rf {n m : Nat} {τ : St} : AgM n m τ τ := ⟨fun _ _ _ _ => rfl, fun _ _ => rfl, fun _ _ => rfl, fun _ _ => rfl⟩
theorem AgX.st {n : Nat} {σ0 σ σ' : St} {S : List Nat} (h : AgX n σ0 σ) (hf : fr1 S [] σ σ') : AgX n σ0 σ' := fun a l hl => by rw [hf.2 a (List.not_mem_nil)]; exact h a l hl
theorem AgX.up {n : Nat} {σ0 σ : St} (h : AgX n σ0 σ) (k : Nat) (v : Int32) : AgX n σ0 (sA σ k (upd (σ.2.1 k) n v)) := fun a l hl => by
  rw [rA_A]
  by_cases e : a = k
  · rw [if_pos e, u_is, if_neg (by omega), ← e]; exact h a l hl
  · rw [if_neg e]; exact h a l hl
theorem AgM.st {n m : Nat} {τ0 τ τ' : St} {S : List Nat} (h : AgM n m τ0 τ) (hf : fr1 S [] τ τ') (hb : τ'.2.2.2 = τ.2.2.2) : AgM n m τ0 τ' := ⟨fun a ha l hl => by rw [hf.2 a (List.not_mem_nil)]; exact h.1 a ha l hl, fun j hj => by rw [hf.2 13 (List.not_mem_nil)]; exact h.2.1 j hj, fun l hl => by rw [hb]; exact h.2.2.1 l hl, fun j hj => by rw [hb]; exact h.2.2.2 j hj⟩
theorem AgM.up {n m : Nat} {τ0 τ : St} (h : AgM n m τ0 τ) {k : Nat} (hk : k ≠ 13) (v : Int32) : AgM n m τ0 (sA τ k (upd (τ.2.1 k) n v)) := by
  refine ⟨fun a ha l hl => ?_, fun j hj => ?_, h.2.2.1, h.2.2.2⟩
  · rw [rA_A]
    by_cases e : a = k
    · rw [if_pos e, u_is, if_neg (by omega), ← e]; exact h.1 a ha l hl
    · rw [if_neg e]; exact h.1 a ha l hl
  · rw [rA_A, if_neg (fun e => hk e.symm)]; exact h.2.1 j hj
theorem LX.ag {x : Ln} {n l : Nat} {σ0 σ : St} (h : LX x l σ0) (ha : AgX n σ0 σ) (hl : l < n) : LX x l σ := by
  unfold LX at h ⊢
  rw [ha 19 l hl, ha 24 l hl, ha 16 l hl, ha 20 l hl, ha 21 l hl, ha 22 l hl, ha 23 l hl]
  exact h
theorem LM.ag {x : Ln} {n m j l : Nat} {τ0 τ : St} (h : LM x j l τ0) (ha : AgM n m τ0 τ) (hl : l < n) (hj : j + (na x + nbb x) ≤ m) : LM x j l τ := by
  unfold LM at h ⊢
  rw [ha.2.2.1 l hl, ha.1 9 (by decide) l hl, ha.1 10 (by decide) l hl, ha.1 11 (by decide) l hl]
  refine ⟨h.1, h.2.1, h.2.2.1, fun q => ?_, fun q => ?_⟩
  · have : na x = 1 := if_neg q
    rw [ha.2.2.2 j (by omega), ha.2.1 j (by omega)]
    exact h.2.2.2.1 q
  · have : nbb x = 1 := if_neg q
    rw [ha.2.2.2 _ (by omega), ha.2.1 _ (by omega)]
    exact h.2.2.2.2 q
theorem PR.ag {D : Nat → Ln} {n : Nat} {σ0 τ0 σ τ : St} (h : PR D n σ0 τ0) (hx : AgX n σ0 σ) (hm : AgM n (ncF D n) τ0 τ) (h15 : τ.1 15 = τ0.1 15) : PR D n σ τ := by
  refine ⟨h15.trans h.1, h.2.1, fun l hl => ?_⟩
  obtain ⟨a1, a2, a3⟩ := h.2.2 l hl
  have := nc_mono D (show l + 1 ≤ n from hl)
  exact ⟨a1, a2.ag hx hl, a3.ag hm hl this⟩
theorem PR_add {D : Nat → Ln} {n : Nat} {x : Ln} {σ0 τ0 σ τ : St} (h : PR D n σ0 τ0) (hn : n < 40) (hx : AgX n σ0 σ) (hm : AgM n (ncF D n) τ0 τ) (ho : LO x) (hX : LX x n σ) (hM : LM x (ncF D n) n τ) (h15 : τ.1 15 = nI (ncF D n + (na x + nbb x))) : PR (vf_upd D n x) (n + 1) σ τ := by
  have e : ∀ l, vf_upd D n x l = if l = n then x else D l := fun l => rfl
  refine ⟨?_, by omega, fun l hl => ?_⟩
  · show τ.1 15 = nI (ncF (vf_upd D n x) n + (na (vf_upd D n x n) + nbb (vf_upd D n x n)))
    rw [nc_upd D n x n (Nat.le_refl _), e n, if_pos rfl]
    exact h15
  · rw [nc_upd D n x l (by omega), e l]
    by_cases q : l = n
    · rw [if_pos q, q]; exact ⟨ho, hX, hM⟩
    · rw [if_neg q]
      obtain ⟨a1, a2, a3⟩ := h.2.2 l (by omega)
      have := nc_mono D (show l + 1 ≤ n by omega)
      exact ⟨a1, a2.ag hx (by omega), a3.ag hm (by omega) this⟩
/-- the first line of that name -/
def fdX (D : Nat → Ln) (v : Nat) : Nat → Nat → Int32
  | 0, _ => -1
  | m + 1, k => if lc (D k) = v then nI k else fdX D v m (k + 1)
theorem fd_is (D : Nat → Ln) (v : Nat) : ∀ m k, fdX D v m k = -1 ∨ ∃ j, j < k + m ∧ fdX D v m k = nI j
  | 0, _ => Or.inl rfl
  | m + 1, k => by
    unfold fdX
    by_cases e : lc (D k) = v
    · rw [if_pos e]; exact Or.inr ⟨k, by omega, rfl⟩
    · rw [if_neg e]
      rcases fd_is D v m (k + 1) with q | ⟨j, q1, q2⟩
      · exact Or.inl q
      · exact Or.inr ⟨j, by omega, q2⟩
theorem x_find2 {D : Nat → Ln} {n v : Nat} (hn : n ≤ 40) (hv : v < 2 ^ 30) {σ : St} (h14 : σ.1 14 = nI n) (h : ∀ l, l < n → lc (D l) < 2 ^ 30 ∧ σ.2.1 19 l = nI (lc (D l))) : ∀ (m f k : Nat), k + m = n → m < f → F_xX6_find_2 f (nI v) (nI k) σ = some (fdX D v m k, σ) := by
  intro m
  induction m with
  | zero =>
    intro f k hk hf
    match f, hf with
    | f + 1, _ =>
      unfold F_xX6_find_2
      rw [h14, if_pos (nI_le (by omega) (by omega))]
      rfl
  | succ m ih =>
    intro f k hk hf
    match f, hf with
    | f + 1, hf =>
      unfold F_xX6_find_2 fdX
      rw [h14, if_neg (nI_ge (by omega) (by omega)), if_neg (show ¬ (40 : Int32) ≤ nI k from nI_ge (b := 40) (by omega) (by omega)), if_pos (ib_nI (by omega) (by omega)), nI_clamp (by omega), (h k (by omega)).2, nI_1]
      have := (h k (by omega)).1
      by_cases e : lc (D k) = v
      · rw [if_pos (by rw [e]), if_pos e]
      · rw [if_neg (fun q => e ((nI_eq (by omega) (by omega)).mp q)), if_neg e]
        exact ih f (k + 1) (by omega) (by omega)
theorem x_find {D : Nat → Ln} {n v : Nat} (hn : n ≤ 40) (hv : v < 2 ^ 30) {σ : St} (h14 : σ.1 14 = nI n) (h : ∀ l, l < n → lc (D l) < 2 ^ 30 ∧ σ.2.1 19 l = nI (lc (D l))) : F_xX6_find (nI v) σ = some (fdX D v n 0, σ) := x_find2 hn hv h14 h n FU 0 (by omega) (by rw [FU_is]; omega)
theorem m_find3 {D : Nat → Ln} {n v : Nat} (hn : n ≤ 40) (hv : v < 2 ^ 30) {τ : St} (h : ∀ l, l < n → lc (D l) < 2 ^ 30 ∧ τ.2.2.2 8 l = nL (lc (D l))) : ∀ (m f k : Nat), k + m = n → m < f → F_mX11_find_3 f (nL v) (nI n) (nI k) τ = some (fdX D v m k, τ) := by
  intro m
  induction m with
  | zero =>
    intro f k hk hf
    match f, hf with
    | f + 1, _ =>
      unfold F_mX11_find_3
      rw [if_pos (nI_le (by omega) (by omega))]
      rfl
  | succ m ih =>
    intro f k hk hf
    match f, hf with
    | f + 1, hf =>
      unfold F_mX11_find_3 fdX
      rw [if_neg (nI_ge (by omega) (by omega)), if_pos (ib_nI (by omega) (by omega)), nI_clamp (by omega), (h k (by omega)).2, nI_1]
      have := (h k (by omega)).1
      by_cases e : lc (D k) = v
      · rw [if_pos (show lg_cmp (nL (lc (D k))) (nL v) = 0 by rw [lg_cmp_eq, e]), if_pos e]
      · rw [if_neg (show ¬ lg_cmp (nL (lc (D k))) (nL v) = 0 from fun q => by rw [lg_cmp_eq] at q; exact e ((nL_eq (by omega) (by omega)).mp q)), if_neg e]
        exact ih f (k + 1) (by omega) (by omega)
theorem m_find {D : Nat → Ln} {n v : Nat} (hn : n ≤ 40) (hv : v < 2 ^ 30) {τ : St} (h : ∀ l, l < n → lc (D l) < 2 ^ 30 ∧ τ.2.2.2 8 l = nL (lc (D l))) : F_mX11_find (nL v) (nI n) τ = some (fdX D v n 0, τ) := m_find3 hn hv h n FU 0 (by omega) (by rw [FU_is]; omega)
def GX (σ0 σ : St) : Prop := fr1 [1, 2, 3, 4, 14] [16, 19, 20, 21, 22, 23, 24] σ0 σ
def GM (τ0 τ : St) : Prop := fr1 [2, 3, 4, 5, 14, 15] [9, 10, 11, 13] τ0 τ
def GXw (σ0 σ : St) : Prop := fr1 [1, 2, 3, 4, 5, 6, 14] [16, 19, 20, 21, 22, 23, 24] σ0 σ
def GMw (τ0 τ : St) : Prop := fr1 [2, 3, 4, 5, 6, 7, 14, 15] [9, 10, 11, 13] τ0 τ
def PFail (σ0 τ0 : St) (rx rm : Option (Int32 × St)) : Prop := ∃ (k s : Int32) (σ' τ' : St), rx = some (0, σ') ∧ rm = some (0, τ') ∧ GXw σ0 σ' ∧ GMw τ0 τ' ∧ σ'.1 5 = k ∧ σ'.1 6 = s ∧ τ'.1 6 = k ∧ τ'.1 7 = s
theorem PFail.mk {σ0 τ0 σ τ : St} (hX : GX σ0 σ) (hM : GM τ0 τ) (k : Int32) (s : Nat) {rx rm : Option (Int32 × St)} (e1 : rx = some (0, xF k s σ)) (e2 : rm = some (0, mF k s τ)) : PFail σ0 τ0 rx rm := ⟨k, nI s, _, _, e1, e2, fr1.sI (fr1.sI (fr1.wk hX (by decide) (by decide)) (by decide)) (by decide), fr1.sI (fr1.sI (fr1.wk hM (by decide) (by decide)) (by decide)) (by decide), rfl, rfl, rfl, rfl⟩
def PSucc (bt : Nat → Int32) (L : Nat) (D : Nat → Ln) (n : Nat) (σ0 τ0 : St) (rx rm : Option (Int32 × St)) : Prop := ∃ (x : Ln) (T : Tk) (σ' τ' : St), rx = some (1, σ') ∧ rm = some (1, τ') ∧ RP bt L T σ' τ' ∧ PR (vf_upd D n x) (n + 1) σ' τ' ∧ σ'.1 14 = nI (n + 1) ∧ τ'.1 14 = nI (n + 1) ∧ GX σ0 σ' ∧ GM τ0 τ'
theorem l_end {bt : Nat → Int32} {L : Nat} (hL : L ≤ 1200) {T : Tk} {σ τ σ0 τ0 : St} (h : RP bt L T σ τ) {D : Nat → Ln} {n : Nat} {x : Ln} (hP : PR (vf_upd D n x) (n + 1) σ τ) (hx : σ.1 14 = nI (n + 1)) (hm : τ.1 14 = nI n) (hX : GX σ0 σ) (hM : GM τ0 τ) : PFail σ0 τ0 (F_xX6_readOrderLine_162 σ) (F_mX11_readLine_303 τ) ∨ PSucc bt L D n σ0 τ0 (F_xX6_readOrderLine_162 σ) (F_mX11_readLine_303 τ) := by
  unfold F_xX6_readOrderLine_162 F_mX11_readLine_303
  rw [hm, nI_1]
  have h1 : RP bt L T σ (sI τ 14 (nI (n + 1))) := ⟨h.1, h.2.1, h.2.2.1, h.2.2.2.1, h.2.2.2.2⟩
  have hM1 : GM τ0 (sI τ 14 (nI (n + 1))) := fr1.sI hM (by decide)
  rcases b_sign hL h1 (c := 59) (Or.inr rfl) with ⟨e, σ', τ', a1, a2, a3, a4, a5⟩ | ⟨e, a1, a2⟩
  · right
    rw [show F_xX9_pass 59 σ = _ from a1, show F_mX11_readSign 59 (sI τ 14 (nI (n + 1))) = _ from a2, bd_is, bd_is, if_pos (by decide), if_pos (by decide)]
    refine ⟨x, _, σ', τ', rfl, rfl, a5, ?_, (a3.1 14 (by decide)).trans hx, (a4.1.1 14 (by decide)).trans rfl, fr1.tr hX (a3.wk (by decide) (by decide)), fr1.tr hM1 (a4.1.wk (by decide) (by decide))⟩
    exact hP.ag (AgX.rf.st a3) (AgM.st (τ := sI τ 14 (nI (n + 1))) AgM.rf a4.1 a4.2) (a4.1.1 15 (by decide))
  · left
    refine PFail.mk hX hM1 1 T.2.1 ?_ ?_
    · rw [show F_xX9_pass 59 σ = _ from a1, bd_is, if_pos (by decide)]
    · rw [show F_mX11_readSign 59 (sI τ 14 (nI (n + 1))) = _ from a2, bd_is, if_pos (by decide)]
theorem l_name {bt : Nat → Int32} {L : Nat} (hL : L ≤ 1200) {T : Tk} {σ τ : St} (h : RP bt L T σ τ) {m : Nat} (hm : m < 82) (h15 : τ.1 15 = nI m) :
    (T.1 ≠ 1 ∧ F_xX9_pass 1 σ = some (0, xF 1 T.2.1 σ) ∧ F_mX11_readName τ = some (-1, mF 1 T.2.1 τ)) ∨
    (T.1 = 1 ∧ ∃ σ' τ', F_xX9_pass 1 σ = some (1, σ') ∧ F_mX11_readName τ = some (nI m, τ') ∧ fr1 [1, 2, 3, 4] [] σ σ' ∧ fr1 [2, 3, 4, 5, 15] [13] τ τ' ∧ τ'.1 15 = nI (m + 1) ∧ (∀ j, τ'.2.1 13 j = if j = m then nI T.2.1 else τ.2.1 13 j) ∧ (∀ k, k ≠ 12 → τ'.2.2.2 k = τ.2.2.2 k) ∧ (∀ j, τ'.2.2.2 12 j = if j = m then nL T.2.2.2 else τ.2.2.2 12 j) ∧ RP bt L (tokF bt L T.2.2.1) σ' τ') := by
  have hT := h.2.2.1
  by_cases e : T.1 = 1
  · right
    refine ⟨e, ?_⟩
    obtain ⟨τ1, hτ1⟩ : ∃ τ1, τ1 = sB (sA (sI τ 15 (nI (m + 1))) 13 (upd (τ.2.1 13) m (nI T.2.1))) 12 (vp_updL (τ.2.2.2 12) m (nL T.2.2.2)) := ⟨_, rfl⟩
    have h1 : RP bt L T σ τ1 := by rw [hτ1]; exact ⟨h.1, h.2.1, h.2.2.1, h.2.2.2.1, h.2.2.2.2⟩
    obtain ⟨σ', τ', a1, a2, a3, a4, a5⟩ := b_step hL h1
    refine ⟨σ', τ', ?_, ?_, a3, ?_, (a4.1.1 15 (by decide)).trans (by rw [hτ1]; rfl), fun j => ?_, fun k hk => ?_, fun j => ?_, a5⟩
    · unfold F_xX9_pass
      rw [h.2.2.2.1.2.1, if_pos (by rw [e]; rfl), a1, bv_is]
    · unfold F_mX11_readName
      rw [h.2.2.2.2.2.1, if_pos (mkd_is.2.1.mpr e), h15, if_pos (ib_nI hm (by omega)), nI_clamp (by omega), h.2.2.2.2.2.2.1, h.2.2.2.2.2.2.2.1 e, nI_1]
      show (bv (F_mX11_scan (sB (sA (sI τ 15 (nI (m + 1))) 13 (upd (τ.2.1 13) m (nI T.2.1))) 12 (vp_updL (τ.2.2.2 12) m (nL T.2.2.2)))) _) = _
      rw [← hτ1, a2, bv_is, (a4.1.1 15 (by decide)).trans (show τ1.1 15 = nI (m + 1) by rw [hτ1]; rfl), nI_sub1 (by omega) (by omega)]
      rfl
    · have f1 : fr1 [2, 3, 4, 5, 15] [13] τ τ1 := by
        rw [hτ1]
        have : fr1 [2, 3, 4, 5, 15] [13] τ (sA (sI τ 15 (nI (m + 1))) 13 (upd (τ.2.1 13) m (nI T.2.1))) := (fr1.rf.sI (by decide)).sA (by decide)
        exact ⟨this.1, this.2⟩
      exact f1.tr (a4.1.wk (by decide) (by decide))
    · rw [a4.1.2 13 (List.not_mem_nil), hτ1]
      exact u_is _ _ _ _
    · rw [a4.2, hτ1, rB_B, if_neg hk]
      rfl
    · rw [a4.2, hτ1, rB_B, if_pos rfl]
      exact uL_is _ _ _ _
  · left
    refine ⟨e, ?_, ?_⟩
    · unfold F_xX9_pass
      rw [h.2.2.2.1.2.1, if_neg (show ¬ nI T.1 = 1 from fun q => e ((nk_eq hT (c := 1) (by omega)).mp q))]
      exact x_fail h.2.2.2.1 1
    · unfold F_mX11_readName
      rw [h.2.2.2.2.2.1, if_neg (fun z => e (mkd_is.2.1.mp z)), m_fails h.2.2.2.2, bd_is]

/-! both read a drum's track -/
abbrev SX : List Nat := [1, 2, 3, 4, 9, 10]
abbrev SMd : List Nat := [2, 3, 4, 5, 10, 11]
abbrev SXw : List Nat := [1, 2, 3, 4, 5, 6, 9, 10]
abbrev SMw : List Nat := [2, 3, 4, 5, 6, 7, 10, 11]
def FX (σ0 σ : St) : Prop := fr1 SX [8, 9] σ0 σ
def FM (τ0 τ : St) : Prop := fr1 SMd [2, 3] τ0 τ ∧ ∀ k, k < 4 → τ.2.1 2 k = τ0.2.1 2 k ∧ τ.2.1 3 k = τ0.2.1 3 k
theorem FM.st {τ0 τ τ' : St} (h : FM τ0 τ) {S : List Nat} (hf : fr1 S [] τ τ') (hS : ∀ k, k ∈ S → k ∈ SMd) : FM τ0 τ' := ⟨h.1.tr (hf.wk hS (fun k hk => absurd hk (List.not_mem_nil))), fun k hk => by rw [hf.2 2 (List.not_mem_nil), hf.2 3 (List.not_mem_nil)]; exact h.2 k hk⟩
def FXw (σ0 σ : St) : Prop := fr1 SXw [8, 9] σ0 σ
def FMw (τ0 τ : St) : Prop := fr1 SMw [2, 3] τ0 τ ∧ ∀ k, k < 4 → τ.2.1 2 k = τ0.2.1 2 k ∧ τ.2.1 3 k = τ0.2.1 3 k
def DFail (σ0 τ0 : St) (rx rm : Option (Int32 × St)) : Prop := ∃ (k s : Int32) (σ' τ' : St), rx = some (0, σ') ∧ rm = some (0, τ') ∧ FXw σ0 σ' ∧ FMw τ0 τ' ∧ σ'.1 5 = k ∧ σ'.1 6 = s ∧ τ'.1 6 = k ∧ τ'.1 7 = s
theorem DFail.mk {σ0 τ0 σ τ : St} (hX : FX σ0 σ) (hM : FM τ0 τ) (k : Int32) (s : Nat) {rx rm : Option (Int32 × St)} (e1 : rx = some (0, xF k s σ)) (e2 : rm = some (0, mF k s τ)) : DFail σ0 τ0 rx rm := ⟨k, nI s, _, _, e1, e2, fr1.sI (fr1.sI (fr1.wk hX (by decide) (by decide)) (by decide)) (by decide), ⟨fr1.sI (fr1.sI (fr1.wk hM.1 (by decide) (by decide)) (by decide)) (by decide), hM.2⟩, rfl, rfl, rfl, rfl⟩
def DA (w n : Nat) (f g : Nat → Nat) (σ τ : St) : Prop := ∀ k, k < n → σ.2.1 8 k = nI (f k) ∧ σ.2.1 9 k = nI (g k) ∧ τ.2.1 2 (4 + k) = nI (f k) ∧ τ.2.1 3 (4 + k) = nI (g k) ∧ 1 ≤ f k ∧ f k ≤ w ∧ 1 ≤ g k ∧ g k ≤ w
def DD (w n : Nat) (f g : Nat → Nat) (σ τ : St) : Prop := σ.1 9 = nI w ∧ τ.1 10 = nI w ∧ σ.1 10 = nI n ∧ τ.1 11 = nI n ∧ 8 ≤ w ∧ w ≤ 32 ∧ DA w n f g σ τ
theorem DA.fr {w n : Nat} {f g : Nat → Nat} {σ τ σ' τ' : St} {S S' : List Nat} (h : DA w n f g σ τ) (hx : fr1 S [] σ σ') (hm : fr1 S' [] τ τ') : DA w n f g σ' τ' := fun k hk => by
  rw [hx.2 8 (List.not_mem_nil), hx.2 9 (List.not_mem_nil), hm.2 2 (List.not_mem_nil), hm.2 3 (List.not_mem_nil)]
  exact h k hk
def DSucc (bt : Nat → Int32) (L w n : Nat) (f g : Nat → Nat) (b81 : St → Option (Int32 × St)) (σ0 τ0 : St) (rx rm : Option (Int32 × St)) : Prop := ∃ (T : Tk) (σ' τ' : St), rx = some (1, σ') ∧ rm = (if T.1 = 0 then some (1, τ') else b81 τ') ∧ RP bt L T σ' τ' ∧ DD w (n + 1) f g σ' τ' ∧ FX σ0 σ' ∧ FM τ0 τ'
theorem tr_end {bt : Nat → Int32} {L : Nat} (hL : L ≤ 1200) {T : Tk} {σ τ σ0 τ0 : St} (h : RP bt L T σ τ) (b81 : St → Option (Int32 × St)) {w n : Nat} {f g : Nat → Nat} (h9 : σ.1 9 = nI w) (h10 : τ.1 10 = nI w) (hx10 : σ.1 10 = nI (n + 1)) (h11 : τ.1 11 = nI n) (hw : 8 ≤ w ∧ w ≤ 32) (hA : DA w (n + 1) f g σ τ) (hX : FX σ0 σ) (hM : FM τ0 τ) :
    DFail σ0 τ0 (bd (F_xX9_pass 59 σ) fun r6 σ_r6 => (if nb r6 = true then (some (r6, σ_r6)) else none)) (F_mX11_readDrum_279 b81 τ) ∨ DSucc bt L w n f g b81 σ0 τ0 (bd (F_xX9_pass 59 σ) fun r6 σ_r6 => (if nb r6 = true then (some (r6, σ_r6)) else none)) (F_mX11_readDrum_279 b81 τ) := by
  unfold F_mX11_readDrum_279
  rcases b_sign hL h (c := 59) (Or.inr rfl) with ⟨e, σ', τ', a1, a2, a3, a4, a5⟩ | ⟨e, a1, a2⟩
  · right
    rw [show F_xX9_pass 59 σ = _ from a1, show F_mX11_readSign 59 τ = _ from a2, bd_is, bd_is, if_pos (by decide), if_neg (by decide)]
    refine ⟨tokF bt L T.2.2.1, σ', sI τ' 11 (nI (n + 1)), rfl, ?_, a5, ?_, fr1.tr hX (a3.wk (by decide) (by decide)), ?_⟩
    · rw [a5.2.2.2.2.2.1, (a4.1.1 11 (by decide)).trans h11, nI_1]
      by_cases q : (tokF bt L T.2.2.1).1 = 0
      · rw [if_pos (mkd_is.1.mpr q), if_pos q]
      · rw [if_neg (fun z => q (mkd_is.1.mp z)), if_neg q]
    · exact ⟨(a3.1 9 (by decide)).trans h9, (a4.1.1 10 (by decide)).trans h10, (a3.1 10 (by decide)).trans hx10, rfl, hw.1, hw.2, hA.fr a3 (S' := [2, 3, 4, 5, 11]) (fr1.sI (a4.1.wk (by decide) (by decide)) (by decide))⟩
    · exact ⟨fr1.sI (FM.st hM a4.1 (by decide)).1 (by decide), (FM.st hM a4.1 (by decide)).2⟩
  · left
    refine DFail.mk hX hM 1 T.2.1 ?_ ?_
    · rw [show F_xX9_pass 59 σ = _ from a1, bd_is, if_pos (by decide)]
    · rw [show F_mX11_readSign 59 τ = _ from a2, bd_is, if_pos rfl]
theorem ky_is : KC 1 ≠ KC 0 ∧ KC 1 ≠ KC 3 ∧ KC 2 ≠ KC 0 ∧ KC 2 ≠ KC 3 ∧ KC 2 ≠ KC 1 ∧ KC 3 ≠ KC 0 := by decide +kernel
theorem x_addTrack {n a b : Nat} {σ : St} (h10 : σ.1 10 = nI n) (hn : n < 4) : F_xX1_addTrack (nI a) (nI b) σ = some (sA (sA (sI σ 10 (nI (n + 1))) 8 (upd (σ.2.1 8) n (nI a))) 9 (upd (σ.2.1 9) n (nI b))) := by
  unfold F_xX1_addTrack
  rw [h10, if_neg (nI_pos (by omega)), if_neg (show ¬ (4 : Int32) ≤ nI n from nI_ge (b := 4) (by omega) (by omega)), if_pos (ib_nI (by omega) (by omega)), nI_clamp (by omega), nI_1]
/-- a track more on both sides -/
theorem DA_add {w n a b : Nat} {f g : Nat → Nat} {σ τ : St} (hA : DA w n f g σ τ) (ha : 1 ≤ a ∧ a ≤ w) (hb : 1 ≤ b ∧ b ≤ w) {σ' τ' : St} (h8 : σ'.2.1 8 = upd (σ.2.1 8) n (nI a)) (h9 : σ'.2.1 9 = upd (σ.2.1 9) n (nI b)) (h2 : ∀ k, k < 4 + n → τ'.2.1 2 k = τ.2.1 2 k) (h3 : ∀ k, k < 4 + n → τ'.2.1 3 k = τ.2.1 3 k) (h2' : τ'.2.1 2 (4 + n) = nI a) (h3' : τ'.2.1 3 (4 + n) = nI b) : DA w (n + 1) (vf_upd f n a) (vf_upd g n b) σ' τ' := by
  intro k hk
  rw [h8, h9, u_is, u_is]
  unfold vf_upd
  by_cases e : k = n
  · rw [e]
    rw [if_pos rfl, if_pos rfl, if_pos rfl, if_pos rfl]
    exact ⟨rfl, rfl, h2', h3', ha.1, ha.2, hb.1, hb.2⟩
  · rw [if_neg e, if_neg e, if_neg e, if_neg e, h2 _ (by omega), h3 _ (by omega)]
    exact hA k (by omega)
theorem x_within {T : Tk} {bt : Nat → Int32} {L : Nat} (hT : TO bt L T) {σ : St} (h : XTk T σ) {a b : Nat} (ha : a < 2 ^ 31) (hb : b < 2 ^ 31) : (T.1 ≠ 2 ∧ F_xX2_numberIsWithin (nI a) (nI b) σ = some (0, xF 1 T.2.1 σ)) ∨ (T.1 = 2 ∧ ¬ (a ≤ T.2.2.2 ∧ T.2.2.2 ≤ b) ∧ F_xX2_numberIsWithin (nI a) (nI b) σ = some (0, xF 2 T.2.1 σ)) ∨ (T.1 = 2 ∧ a ≤ T.2.2.2 ∧ T.2.2.2 ≤ b ∧ F_xX2_numberIsWithin (nI a) (nI b) σ = some (1, σ)) := by
  unfold F_xX2_numberIsWithin
  rw [h.2.1]
  by_cases e : T.1 = 2
  · right
    have hv := hT.2.2.2.2.1 e
    rw [if_pos (by rw [e]; rfl), h.2.2.2 (Or.inr e)]
    unfold F_xX2_numberIsWithin_49
    by_cases e1 : T.2.2.2 < a
    · left
      rw [if_pos (nI_lt e1 ha)]
      exact ⟨e, fun q => by omega, x_fail h 2⟩
    · rw [if_neg (nI_nlt (by omega) (by omega))]
      by_cases e2 : T.2.2.2 ≤ b
      · right
        rw [if_pos (nI_le e2 hb)]
        exact ⟨e, by omega, e2, rfl⟩
      · left
        rw [if_neg (nI_ge (by omega) (by omega))]
        exact ⟨e, fun q => e2 q.2, x_fail h 2⟩
  · left
    rw [if_neg (show ¬ nI T.1 = 2 from fun q => e ((nk_eq hT (c := 2) (by omega)).mp q))]
    exact ⟨e, x_fail h 1⟩
theorem b1_0 {b : Bool} : b1 b = 0 ↔ b = false := by cases b <;> decide
theorem m_in {x a b : Int32} {τ : St} : F_mX11_in x a b τ = some (if x < a then 0 else if b < x then 0 else 1, τ) := by
  unfold F_mX11_in
  split
  · rfl
  · split <;> rfl

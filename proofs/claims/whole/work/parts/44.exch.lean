/-! exchange -/
def swp (sp : Nat → Nat) (a b : Nat) : Nat → Nat := vf_upd (vf_upd sp a (sp b)) b (sp a)
theorem swp_at (sp : Nat → Nat) (a b k : Nat) : swp sp a b k = if k = b then sp a else if k = a then sp b else sp k := rfl
theorem swp_swp (sp : Nat → Nat) {a b : Nat} (h : a ≠ b) : swp (swp sp a b) a b = sp := by
  funext k
  rw [swp_at, swp_at, swp_at, swp_at]
  by_cases e1 : k = b
  · subst e1
    simp [h]
  · by_cases e2 : k = a
    · subst e2
      simp [h]
    · simp [e1, e2]
theorem LOK_swp {w t : Nat} {pl : Nat → Nat} {c : Nat} {sp : Nat → Nat} (hL : LOK w t pl c sp) {a b : Nat} (ha : a < c) (hb : b < c) : LOK w t pl c (swp sp a b) := by
  refine ⟨fun k hk => ?_, fun x y hx hy e => ?_⟩
  · rw [swp_at]
    split
    · exact hL.1 a ha
    · split
      · exact hL.1 b hb
      · exact hL.1 k hk
  · rw [swp_at, swp_at] at e
    have i := hL.2
    by_cases x1 : x = b
    · by_cases y1 : y = b
      · omega
      · rw [if_pos x1, if_neg y1] at e
        by_cases y2 : y = a
        · rw [if_pos y2] at e
          have := i a b ha hb e
          omega
        · rw [if_neg y2] at e
          have := i a y ha hy e
          omega
    · rw [if_neg x1] at e
      by_cases y1 : y = b
      · rw [if_pos y1] at e
        by_cases x2 : x = a
        · rw [if_pos x2] at e
          have := i b a hb ha e
          omega
        · rw [if_neg x2] at e
          have := i x a hx ha e
          omega
      · rw [if_neg y1] at e
        by_cases x2 : x = a
        · rw [if_pos x2] at e
          by_cases y2 : y = a
          · omega
          · rw [if_neg y2] at e
            have := i b y hb hy e
            omega
        · rw [if_neg x2] at e
          by_cases y2 : y = a
          · rw [if_pos y2] at e
            have := i x b hx hb e
            omega
          · rw [if_neg y2] at e
            exact i x y hx hy e
theorem x_swap {w t : Nat} {rd pl : Nat → Nat} (hd : DOK w t rd pl) {c : Nat} {sp : Nat → Nat} {bad : Nat → Int32} (hL : LOK w t pl c sp) (hc : c ≤ 40) {a b : Nat} (ha : a < c) (hb : b < c) (hab : a ≠ b) {σ : St} (hD : XD w t rd pl σ) (hX : XL w rd c sp bad σ) : ∃ σ', F_xX3_swap (nI a) (nI b) σ = some σ' ∧ fr1 [] [26, 27, 28, 29] σ σ' ∧ XL w rd c (swp sp a b) bad σ' := by
  have f1 := fr_put (w := w) (rd := rd) a (sp b) σ
  have hD1 := hD.fr f1 (by decide) (by decide) (by decide) (by decide)
  have f2 := fr_put (w := w) (rd := rd) b (sp a) (putS w rd a (sp b) σ)
  refine ⟨putS w rd b (sp a) (putS w rd a (sp b) σ), ?_, f1.tr f2, ?_⟩
  · unfold F_xX3_swap
    rw [if_neg (nI_pos (by omega)), if_neg (show ¬ (40 : Int32) ≤ nI a from nI_ge (b := 40) (by omega) (by omega)), if_neg (nI_pos (by omega)), if_pos (show nI b < (40 : Int32) from nI_lt (b := 40) (by omega) (by omega)), if_pos (ib_nI (by omega) (by omega)), if_pos (ib_nI (by omega) (by omega)), nI_clamp (by omega), nI_clamp (by omega), (hX.2.1 a ha).1, (hX.2.1 b hb).1, x_put hd hD (by omega) (hL.1 b hb), bv_is, x_put hd hD1 (by omega) (hL.1 a ha), bv_is]
  · rw [XL_iff] at hX ⊢
    refine ⟨hX.1, XS_put (XS_put hX.2.1 a (sp b)) b (sp a), ?_, hX.2.2.2⟩
    have hN := hX.2.2.1
    show XN c (swp sp a b) (upd (upd (σ.2.1 29) (sp b) (nI a)) (sp a) (nI b))
    have hne : sp a ≠ sp b := fun z => hab (hL.2 a b ha hb z)
    constructor
    · intro k hk
      rw [swp_at, u_is, u_is]
      by_cases e1 : k = b
      · rw [if_pos e1, if_pos rfl, e1]
      · rw [if_neg e1]
        by_cases e2 : k = a
        · rw [if_pos e2, if_neg (fun z => hne z.symm), if_pos rfl, e2]
        · rw [if_neg e2, if_neg (fun z => e2 (hL.2 k a hk ha z)), if_neg (fun z => e1 (hL.2 k b hk hb z))]
          exact hN.1 k hk
    · intro s hs hno
      rw [u_is, u_is]
      have h1 := hno b hb
      have h2 := hno a ha
      rw [swp_at, if_pos rfl] at h1
      rw [swp_at, if_neg hab, if_pos rfl] at h2
      rw [if_neg (fun z => h1 z.symm), if_neg (fun z => h2 z.symm)]
      refine hN.2 s hs (fun k hk => ?_)
      by_cases e1 : k = b
      · rw [e1]; exact h2
      · by_cases e2 : k = a
        · rw [e2]; exact h1
        · have h3 := hno k hk
          rw [swp_at, if_neg e1, if_neg e2] at h3
          exact h3
theorem tmL_cong {ph rn ph' rn' : Nat → Nat} {c : Nat} (h : ∀ n, n < c → rn' n = rn n ∧ ph' n % rn n = ph n % rn n) : ∀ (l : List (Nat × Nat × Nat)) (t : Nat), EVok c l → tmL ph' rn' l t = tmL ph rn l t := by
  have hw : ∀ n t, n < c → wt (ph' n) (rn' n) t = wt (ph n) (rn n) t := by
    intro n t hn
    obtain ⟨h1, h2⟩ := h n hn
    rw [h1, ← wt_mod, h2, wt_mod]
  intro l
  induction l with
  | nil => intro t _; rfl
  | cons e l ih =>
    intro t he
    have h1 := he e List.mem_cons_self
    show tmL ph' rn' l _ = tmL ph rn l _
    rw [ih _ (fun x hx => he x (List.mem_cons_of_mem _ hx)), hw e.1 t h1.1]
    by_cases h63 : e.2.1 = 63
    · rw [if_pos h63, if_pos h63]
    · rw [if_neg h63, if_neg h63, hw e.2.1 _ (h1.2.1.resolve_left h63)]
theorem tm_alike {w t : Nat} {rd pl : Nat → Nat} {c en : Nat} {val : Nat → Int32} {sp : Nat → Nat} (hc : c ≤ 40) (hen : en < c) {a b : Nat} (hr : rd (sp a / w) = rd (sp b / w)) (hp : sp a % w % rd (sp a / w) = sp b % w % rd (sp b / w)) : tmS w rd c en val (swp sp a b) = tmS w rd c en val sp := by
  refine tmL_cong (c := c) (fun n hn => ?_) _ _ (rev_ok hc _ _ hen)
  unfold rnF phF
  rw [swp_at]
  by_cases e1 : n = b
  · rw [if_pos e1, e1]
    exact ⟨hr, by rw [← hr]; rw [← hr] at hp; exact hp⟩
  · rw [if_neg e1]
    by_cases e2 : n = a
    · rw [if_pos e2, e2]
      exact ⟨hr.symm, by rw [hp, hr]⟩
    · rw [if_neg e2]
      exact ⟨rfl, rfl⟩
def exT (w : Nat) (rd : Nat → Nat) (c en : Nat) (val : Nat → Int32) (bad : Nat → Int32) (a b : Nat) (z : Nat × (Nat → Nat)) : Nat × (Nat → Nat) := if bad (z.2 a) = 0 ∧ bad (z.2 b) = 0 ∧ tmS w rd c en val (swp z.2 a b) < z.1 then (tmS w rd c en val (swp z.2 a b), swp z.2 a b) else z
def exI (w : Nat) (rd : Nat → Nat) (c en : Nat) (val : Nat → Int32) (bad : Nat → Int32) (a : Nat) : Nat → Nat → Nat × (Nat → Nat) → Nat × (Nat → Nat)
  | 0, _, z => z
  | r + 1, b, z => exI w rd c en val bad a r (b + 1) (exT w rd c en val bad a b z)
def exO (w : Nat) (rd : Nat → Nat) (c en : Nat) (val : Nat → Int32) (bad : Nat → Int32) : Nat → Nat → Nat × (Nat → Nat) → Nat × (Nat → Nat)
  | 0, _, z => z
  | r + 1, a, z => exO w rd c en val bad r (a + 1) (exI w rd c en val bad a (c - (a + 1)) (a + 1) z)
def exR (w : Nat) (rd : Nat → Nat) (c en : Nat) (val : Nat → Int32) (bad : Nat → Int32) : Nat → Nat × (Nat → Nat) → Nat × (Nat → Nat)
  | 0, z => z
  | r + 1, z => if (exO w rd c en val bad c 0 z).1 = z.1 then exO w rd c en val bad c 0 z else exR w rd c en val bad r (exO w rd c en val bad c 0 z)
/-- a laying and its time -/
def exOK (w t : Nat) (rd pl : Nat → Nat) (c en : Nat) (val : Nat → Int32) (z : Nat × (Nat → Nat)) : Prop := LOK w t pl c z.2 ∧ z.1 = tmS w rd c en val z.2
theorem exT_ok {w t : Nat} {rd pl : Nat → Nat} {c en : Nat} {val : Nat → Int32} {bad : Nat → Int32} {a b : Nat} (ha : a < c) (hb : b < c) {z : Nat × (Nat → Nat)} (h : exOK w t rd pl c en val z) : exOK w t rd pl c en val (exT w rd c en val bad a b z) ∧ (exT w rd c en val bad a b z).1 ≤ z.1 := by
  unfold exT
  split
  · next hh => exact ⟨⟨LOK_swp h.1 ha hb, rfl⟩, Nat.le_of_lt hh.2.2⟩
  · exact ⟨h, Nat.le_refl _⟩
theorem exI_ok {w t : Nat} {rd pl : Nat → Nat} {c en : Nat} {val : Nat → Int32} {bad : Nat → Int32} {a : Nat} (ha : a < c) : ∀ (r b : Nat) (z : Nat × (Nat → Nat)), b + r ≤ c → exOK w t rd pl c en val z → exOK w t rd pl c en val (exI w rd c en val bad a r b z) ∧ (exI w rd c en val bad a r b z).1 ≤ z.1 := by
  intro r
  induction r with
  | zero => intro b z _ h; exact ⟨h, Nat.le_refl _⟩
  | succ r ih =>
    intro b z hb h
    have h1 := exT_ok (bad := bad) ha (show b < c by omega) h
    have h2 := ih (b + 1) _ (by omega) h1.1
    exact ⟨h2.1, Nat.le_trans h2.2 h1.2⟩
theorem exO_ok {w t : Nat} {rd pl : Nat → Nat} {c en : Nat} {val : Nat → Int32} {bad : Nat → Int32} : ∀ (r a : Nat) (z : Nat × (Nat → Nat)), a + r ≤ c → exOK w t rd pl c en val z → exOK w t rd pl c en val (exO w rd c en val bad r a z) ∧ (exO w rd c en val bad r a z).1 ≤ z.1 := by
  intro r
  induction r with
  | zero => intro a z _ h; exact ⟨h, Nat.le_refl _⟩
  | succ r ih =>
    intro a z ha h
    have h1 := exI_ok (bad := bad) (show a < c by omega) (c - (a + 1)) (a + 1) z (by omega) h
    have h2 := ih (a + 1) _ (by omega) h1.1
    exact ⟨h2.1, Nat.le_trans h2.2 h1.2⟩
theorem exR_ok {w t : Nat} {rd pl : Nat → Nat} {c en : Nat} {val : Nat → Int32} {bad : Nat → Int32} : ∀ (r : Nat) (z : Nat × (Nat → Nat)), exOK w t rd pl c en val z → exOK w t rd pl c en val (exR w rd c en val bad r z) := by
  intro r
  induction r with
  | zero => intro z h; exact h
  | succ r ih =>
    intro z h
    have h1 := exO_ok (bad := bad) c 0 z (by omega) h
    unfold exR
    split
    · exact h1.1
    · exact ih _ h1.1
/-- one that is bad stays where it is -/
theorem exI_bad {w : Nat} {rd : Nat → Nat} {c en : Nat} {val : Nat → Int32} {bad : Nat → Int32} {a : Nat} : ∀ (r b : Nat) (z : Nat × (Nat → Nat)), ¬ bad (z.2 a) = 0 → exI w rd c en val bad a r b z = z := by
  intro r
  induction r with
  | zero => intro b z _; rfl
  | succ r ih =>
    intro b z h
    show exI w rd c en val bad a r (b + 1) (exT w rd c en val bad a b z) = z
    have : exT w rd c en val bad a b z = z := by
      unfold exT
      rw [if_neg (fun q => h q.1)]
    rw [this]
    exact ih (b + 1) z h
theorem x_ifLess {w t : Nat} {rd pl : Nat → Nat} (hd : DOK w t rd pl) {c en : Nat} {val : Nat → Int32} {bad : Nat → Int32} (hc : c ≤ 40) (hen : en < c) {z : Nat × (Nat → Nat)} (hz : exOK w t rd pl c en val z) {a b : Nat} (ha : a < c) (hb : b < c) (hab : a ≠ b) (hba : bad (z.2 a) = 0) (hbb : bad (z.2 b) = 0) {σ : St} (hD : XD w t rd pl σ) (hX : XL w rd c z.2 bad σ) (hC : XCo c en val σ) :
    ∃ σ', F_xX8_exchangeIfLess (nI a) (nI b) (nI z.1) σ = some (nI (exT w rd c en val bad a b z).1, σ') ∧ fr1 [] [26, 27, 28, 29] σ σ' ∧ XL w rd c (exT w rd c en val bad a b z).2 bad σ' := by
  have hL := hz.1
  have hzt := tmS_le (rd := rd) (en := en) (val := val) hd hc hen hL.1
  have hL2 := LOK_swp hL ha hb
  have ht2 := tmS_le (rd := rd) (en := en) (val := val) hd hc hen hL2.1
  have hsa := there_lt hd (hL.1 a ha)
  have hsb := there_lt hd (hL.1 b hb)
  have hra := hd.2.2.2.2 _ hsa.2
  have hrb := hd.2.2.2.2 _ hsb.2
  have hw := hd.2.1
  have hma : z.2 a % w % rd (z.2 a / w) < rd (z.2 a / w) := Nat.mod_lt _ (by omega)
  have hmb : z.2 b % w % rd (z.2 b / w) < rd (z.2 b / w) := Nat.mod_lt _ (by omega)
  have hal : F_xX3_alikeInTime (nI a) (nI b) σ = some (if z.2 a % w % rd (z.2 a / w) = z.2 b % w % rd (z.2 b / w) ∧ rd (z.2 a / w) = rd (z.2 b / w) then 1 else 0, σ) := by
    unfold F_xX3_alikeInTime
    rw [if_pos (ib_nI (by omega) (by omega)), if_pos (ib_nI (by omega) (by omega)), nI_clamp (by omega), nI_clamp (by omega), (hX.2.1 a ha).2.1, (hX.2.1 b hb).2.1, (hX.2.1 a ha).2.2.1, (hX.2.1 b hb).2.2.1]
    by_cases e1 : z.2 a % w % rd (z.2 a / w) = z.2 b % w % rd (z.2 b / w)
    · rw [if_pos (by rw [e1])]
      by_cases e2 : rd (z.2 a / w) = rd (z.2 b / w)
      · rw [if_pos (by rw [e2]), if_pos ⟨e1, e2⟩]
      · rw [if_neg (by rw [nI_eq (by omega) (by omega)]; exact e2), if_neg (fun q => e2 q.2)]
    · rw [if_neg (by rw [nI_eq (by omega) (by omega)]; exact e1), if_neg (fun q => e1 q.1)]
  unfold F_xX8_exchangeIfLess
  rw [hal, bd_is]
  by_cases hk : z.2 a % w % rd (z.2 a / w) = z.2 b % w % rd (z.2 b / w) ∧ rd (z.2 a / w) = rd (z.2 b / w)
  · have e : exT w rd c en val bad a b z = z := by
      unfold exT
      rw [if_neg]
      intro q
      have := q.2.2
      rw [tm_alike (pl := pl) (t := t) hc hen hk.2 hk.1, hz.2] at this
      omega
    rw [if_pos hk, if_neg (by decide), e]
    exact ⟨σ, rfl, fr1.rf, hX⟩
  · obtain ⟨σ1, a1, a2, a3⟩ := x_swap hd hL hc ha hb hab hD hX
    have hD1 := hD.fr a2 (by decide) (by decide) (by decide) (by decide)
    have hC1 := hC.fr a2 (by decide) (by decide)
    rw [if_neg hk, if_pos rfl, a1, bv_is, x_timeOf hd hc hen hL2.1 (XL_iff.mp a3).2.1 hC1.1 hC1.2, bd_is]
    by_cases hlt : tmS w rd c en val (swp z.2 a b) < z.1
    · have e : exT w rd c en val bad a b z = (tmS w rd c en val (swp z.2 a b), swp z.2 a b) := by
        unfold exT
        rw [if_pos ⟨hba, hbb, hlt⟩]
      rw [if_neg (nI_ge hlt (by have := hz.2; omega)), e]
      exact ⟨σ1, rfl, a2, a3⟩
    · have e : exT w rd c en val bad a b z = z := by
        unfold exT
        rw [if_neg (fun q => hlt q.2.2)]
      obtain ⟨σ2, b1, b2, b3⟩ := x_swap hd hL2 hc ha hb hab hD1 a3
      rw [swp_swp _ hab] at b3
      rw [if_pos (nI_le (by omega) (by omega)), b1, bv_is, e]
      exact ⟨σ2, rfl, a2.tr b2, b3⟩
theorem x_ex25 {w t : Nat} {rd pl : Nat → Nat} (hd : DOK w t rd pl) {c en : Nat} {val : Nat → Int32} {bad : Nat → Int32} (hc : c ≤ 40) (hen : en < c) (g : Int32 → Int32 → Int32 → St → Option (Int32 × St)) {a : Nat} (ha : a < c) : ∀ (f r b : Nat) (z : Nat × (Nat → Nat)) (σ : St), b + r = c → a < b → r < f → exOK w t rd pl c en val z → XD w t rd pl σ → XL w rd c z.2 bad σ → XCo c en val σ →
    ∃ σ', F_xX8_exchangeOnce_25 g f (nI z.1) (nI c) (nI a) (nI b) σ = g (nI (exI w rd c en val bad a r b z).1) (nI c) (nI (a + 1)) σ' ∧ fr1 [] [26, 27, 28, 29] σ σ' ∧ XL w rd c (exI w rd c en val bad a r b z).2 bad σ' := by
  intro f
  induction f with
  | zero => intro r b z σ h1 h2 h3; omega
  | succ f ih =>
    intro r b z σ hbr hab hrf hz hD hX hC
    unfold F_xX8_exchangeOnce_25
    rw [nI_1]
    cases r with
    | zero =>
      rw [if_pos (nI_le (show c ≤ b by omega) (by omega))]
      exact ⟨σ, rfl, fr1.rf, hX⟩
    | succ r =>
      rw [if_neg (nI_ge (show b < c by omega) (by omega)), x_lob hd hz.1 hc ha hX, bd_is]
      by_cases hba : bad (z.2 a) = 0
      · rw [if_pos hba, if_pos rfl, x_lob hd hz.1 hc (show b < c by omega) hX, bd_is]
        show ∃ σ', _ = g (nI (exI w rd c en val bad a r (b + 1) (exT w rd c en val bad a b z)).1) (nI c) (nI (a + 1)) σ' ∧ fr1 [] [26, 27, 28, 29] σ σ' ∧ XL w rd c (exI w rd c en val bad a r (b + 1) (exT w rd c en val bad a b z)).2 bad σ'
        by_cases hbb : bad (z.2 b) = 0
        · obtain ⟨σ1, a1, a2, a3⟩ := x_ifLess hd hc hen hz ha (show b < c by omega) (by omega) hba hbb hD hX hC
          rw [if_pos hbb, if_pos rfl, a1, bd_is, nI_1]
          obtain ⟨σ', b1, b2, b3⟩ := ih r (b + 1) _ σ1 (by omega) (by omega) (by omega) (exT_ok ha (by omega) hz).1 (hD.fr a2 (by decide) (by decide) (by decide) (by decide)) a3 (hC.fr a2 (by decide) (by decide))
          exact ⟨σ', b1, a2.tr b2, b3⟩
        · have e : exT w rd c en val bad a b z = z := by
            unfold exT
            rw [if_neg (fun q => hbb q.2.1)]
          rw [if_neg hbb, if_neg (by decide), nI_1, e]
          exact ih r (b + 1) z σ (by omega) (by omega) (by omega) hz hD hX hC
      · rw [if_neg hba, if_neg (by decide), exI_bad _ _ _ hba]
        exact ⟨σ, rfl, fr1.rf, hX⟩
theorem x_ex13 {w t : Nat} {rd pl : Nat → Nat} (hd : DOK w t rd pl) {c en : Nat} {val : Nat → Int32} {bad : Nat → Int32} (hc : c ≤ 40) (hen : en < c) : ∀ (f r a : Nat) (z : Nat × (Nat → Nat)) (σ : St), a + r = c → r < f → exOK w t rd pl c en val z → XD w t rd pl σ → XL w rd c z.2 bad σ → XCo c en val σ →
    ∃ σ', F_xX8_exchangeOnce_13 f (nI z.1) (nI c) (nI a) σ = some (nI (exO w rd c en val bad r a z).1, σ') ∧ fr1 [] [26, 27, 28, 29] σ σ' ∧ XL w rd c (exO w rd c en val bad r a z).2 bad σ' := by
  intro f
  induction f with
  | zero => intro r a z σ h1 h2; omega
  | succ f ih =>
    intro r a z σ har hrf hz hD hX hC
    unfold F_xX8_exchangeOnce_13
    cases r with
    | zero =>
      rw [if_pos (nI_le (show c ≤ a by omega) (by omega))]
      exact ⟨σ, rfl, fr1.rf, hX⟩
    | succ r =>
      rw [if_neg (nI_ge (show a < c by omega) (by omega)), nI_1]
      obtain ⟨σ1, a1, a2, a3⟩ := x_ex25 hd hc hen (F_xX8_exchangeOnce_13 f) (show a < c by omega) FU (c - (a + 1)) (a + 1) z σ (by omega) (by omega) (by rw [FU_is]; omega) hz hD hX hC
      obtain ⟨σ', b1, b2, b3⟩ := ih r (a + 1) _ σ1 (by omega) (by omega) (exI_ok (show a < c by omega) _ _ z (by omega) hz).1 (hD.fr a2 (by decide) (by decide) (by decide) (by decide)) a3 (hC.fr a2 (by decide) (by decide))
      exact ⟨σ', a1.trans b1, a2.tr b2, b3⟩
theorem x_ex14 {w t : Nat} {rd pl : Nat → Nat} (hd : DOK w t rd pl) {c en : Nat} {val : Nat → Int32} {bad : Nat → Int32} (hc : c ≤ 40) (hen : en < c) : ∀ (f r i : Nat) (z : Nat × (Nat → Nat)) (σ : St), i + r = 20 → r < f → exOK w t rd pl c en val z → XD w t rd pl σ → XL w rd c z.2 bad σ → XCo c en val σ →
    ∃ σ', F_xX8_exchangePairs_14 f (nI z.1) (nI i) σ = some (nI (exR w rd c en val bad r z).1, σ') ∧ fr1 [] [26, 27, 28, 29] σ σ' ∧ XL w rd c (exR w rd c en val bad r z).2 bad σ' := by
  intro f
  induction f with
  | zero => intro r i z σ h1 h2; omega
  | succ f ih =>
    intro r i z σ hir hrf hz hD hX hC
    unfold F_xX8_exchangePairs_14
    cases r with
    | zero =>
      rw [if_pos (show (20 : Int32) ≤ nI i from nI_le (a := 20) (by omega) (by omega))]
      exact ⟨σ, rfl, fr1.rf, hX⟩
    | succ r =>
      have hO := exO_ok (bad := bad) c 0 z (by omega) hz
      have hzt := tmS_le (rd := rd) (en := en) (val := val) hd hc hen hz.1.1
      have hze := hz.2
      obtain ⟨σ1, a1, a2, a3⟩ := x_ex13 (bad := bad) hd hc hen FU c 0 z σ (by omega) (by rw [FU_is]; omega) hz hD hX hC
      have a1' : F_xX8_exchangeOnce (nI z.1) σ = some (nI (exO w rd c en val bad c 0 z).1, σ1) := by
        unfold F_xX8_exchangeOnce
        rw [x_cnt hX.1, bd_is]
        exact a1
      rw [if_neg (show ¬ (20 : Int32) ≤ nI i from nI_ge (b := 20) (by omega) (by omega)), a1', bd_is, nI_1]
      unfold exR
      by_cases he : (exO w rd c en val bad c 0 z).1 = z.1
      · rw [if_pos (by rw [he]), if_pos he, he]
        exact ⟨σ1, rfl, a2, a3⟩
      · rw [if_neg (by rw [nI_eq (by omega) (by omega)]; exact he), if_neg he]
        obtain ⟨σ', b1, b2, b3⟩ := ih r (i + 1) _ σ1 (by omega) (by omega) hO.1 (hD.fr a2 (by decide) (by decide) (by decide) (by decide)) a3 (hC.fr a2 (by decide) (by decide))
        exact ⟨σ', b1, a2.tr b2, b3⟩
theorem m_swap {c : Nat} {sp : Nat → Nat} (hc : c ≤ 40) {a b : Nat} (ha : a < c) (hb : b < c) {τ : St} (h7 : ∀ n, n < c → τ.2.1 7 n = nI (sp n)) : ∃ τ', F_mX11_swap (nI a) (nI b) τ = some τ' ∧ fr1 [] [7] τ τ' ∧ ∀ n, n < c → τ'.2.1 7 n = nI (swp sp a b n) := by
  refine ⟨sA τ 7 (upd (upd (τ.2.1 7) a (τ.2.1 7 b)) b (τ.2.1 7 a)), ?_, fr1.rf.sA (by decide), fun n hn => ?_⟩
  · unfold F_mX11_swap
    rw [if_pos (ib_nI (by omega) (by omega)), if_pos (ib_nI (by omega) (by omega)), nI_clamp (by omega), nI_clamp (by omega)]
  · show upd (upd (τ.2.1 7) a (τ.2.1 7 b)) b (τ.2.1 7 a) n = _
    rw [u_is, u_is, swp_at]
    by_cases e1 : n = b
    · rw [if_pos e1, if_pos e1, h7 a ha]
    · rw [if_neg e1, if_neg e1]
      by_cases e2 : n = a
      · rw [if_pos e2, if_pos e2, h7 b hb]
      · rw [if_neg e2, if_neg e2, h7 n hn]
theorem flag_c {a b c : Nat} {f : Int32} (h1 : a ≤ b) (h2 : b ≤ c) : (if a = b then (if b = c then f else 1) else 1) = if a = c then f else 1 := by
  by_cases e1 : a = b
  · rw [if_pos e1]
    by_cases e2 : b = c
    · rw [if_pos e2, if_pos (by omega)]
    · rw [if_neg e2, if_neg (by omega)]
  · rw [if_neg e1, if_neg (by omega)]
theorem m_ex49 {w t : Nat} {rd pl : Nat → Nat} (hd : DOK w t rd pl) {c en : Nat} {val : Nat → Int32} {bad : Nat → Int32} (hc : c ≤ 40) (hen : en < c) (g19 : Int32 → Int32 → Int32 → St → Option (Int32 × St)) (g34 : Int32 → Int32 → Int32 → Int32 → St → Option (Int32 × St)) (x3 : Int32) {a : Nat} (ha : a < c) : ∀ (f r b : Nat) (fl : Int32) (z : Nat × (Nat → Nat)) (τ : St), b + r = c → a < b → r < f → exOK w t rd pl c en val z → MD w t rd pl τ → MP c en val τ → ML c z.2 bad τ →
    ∃ τ', F_mX11_exchange_49 g19 g34 f (nI z.1) fl x3 (nI a) (nI b) τ = g34 (nI (exI w rd c en val bad a r b z).1) (if (exI w rd c en val bad a r b z).1 = z.1 then fl else 1) x3 (nI (a + 1)) τ' ∧ fr1 [16, 17, 18, 19, 20, 21, 22] [7, 14, 15, 16, 17, 18, 19, 20] τ τ' ∧ ML c (exI w rd c en val bad a r b z).2 bad τ' := by
  intro f
  induction f with
  | zero => intro r b fl z τ h1 h2 h3; omega
  | succ f ih =>
    intro r b fl z τ hbr hab hrf hz hD hP hM
    unfold F_mX11_exchange_49
    rw [hP.1, nI_1]
    cases r with
    | zero =>
      rw [if_pos (nI_le (show c ≤ b by omega) (by omega))]
      refine ⟨τ, ?_, fr1.rf, hM⟩
      show _ = g34 (nI z.1) (if z.1 = z.1 then fl else 1) _ _ _
      rw [if_pos rfl]
    | succ r =>
      have hb : b < c := by omega
      have hsa := (there_lt hd (hz.1.1 a ha)).1
      have hsb := (there_lt hd (hz.1.1 b hb)).1
      have hzt := tmS_le (rd := rd) (en := en) (val := val) hd hc hen hz.1.1
      have hze := hz.2
      have hok := exT_ok (bad := bad) ha hb hz
      have hok2 := exI_ok (bad := bad) ha r (b + 1) _ (by omega) hok.1
      rw [if_neg (nI_ge hb (by omega)), if_pos (ib_nI (by omega) (by omega)), nI_clamp (by omega), hM.1 a ha, if_pos (ib_nI hsa (by omega)), nI_clamp (by omega), hM.2 _ hsa, nI_1]
      show ∃ τ', _ = g34 (nI (exI w rd c en val bad a r (b + 1) (exT w rd c en val bad a b z)).1) (if (exI w rd c en val bad a r (b + 1) (exT w rd c en val bad a b z)).1 = z.1 then fl else 1) x3 (nI (a + 1)) τ' ∧ fr1 [16, 17, 18, 19, 20, 21, 22] [7, 14, 15, 16, 17, 18, 19, 20] τ τ' ∧ ML c (exI w rd c en val bad a r (b + 1) (exT w rd c en val bad a b z)).2 bad τ'
      have same : exT w rd c en val bad a b z = z → ∀ τ2 : St, fr1 [16, 17, 18, 19, 20, 21, 22] [7, 14, 15, 16, 17, 18, 19, 20] τ τ2 → (∀ n, n < c → τ2.2.1 7 n = nI (z.2 n)) → ∃ τ', F_mX11_exchange_49 g19 g34 f (nI z.1) fl x3 (nI a) (nI (b + 1)) τ2 = g34 (nI (exI w rd c en val bad a r (b + 1) (exT w rd c en val bad a b z)).1) (if (exI w rd c en val bad a r (b + 1) (exT w rd c en val bad a b z)).1 = z.1 then fl else 1) x3 (nI (a + 1)) τ' ∧ fr1 [16, 17, 18, 19, 20, 21, 22] [7, 14, 15, 16, 17, 18, 19, 20] τ τ' ∧ ML c (exI w rd c en val bad a r (b + 1) (exT w rd c en val bad a b z)).2 bad τ' := by
        intro e τ2 hf h72
        rw [e]
        obtain ⟨τ', b1, b2, b3⟩ := ih r (b + 1) fl z τ2 (by omega) (by omega) (by omega) hz (hD.fr hf (by decide) (by decide) (by decide) (by decide)) (hP.fr hf (by decide) (by decide) (by decide)) ⟨h72, fun s hs => by rw [hf.2 4 (by decide)]; exact hM.2 s hs⟩
        exact ⟨τ', b1, hf.tr b2, b3⟩
      by_cases hba : bad (z.2 a) = 0
      · rw [if_pos hba, if_pos (ib_nI (by omega) (by omega)), nI_clamp (by omega), hM.1 b hb, if_pos (ib_nI hsb (by omega)), nI_clamp (by omega), hM.2 _ hsb]
        by_cases hbb : bad (z.2 b) = 0
        · obtain ⟨τ1, a1, a2, a3⟩ := m_swap hc ha hb hM.1
          have f1 : fr1 [16, 17, 18, 19, 20, 21, 22] [7, 14, 15, 16, 17, 18, 19, 20] τ τ1 := a2.wk (by decide) (by decide)
          have hL2 := LOK_swp hz.1 ha hb
          have ht2 := tmS_le (rd := rd) (en := en) (val := val) hd hc hen hL2.1
          obtain ⟨τ2, b1, b2⟩ := m_timeNow hd hL2.1 hc hen (hD.fr f1 (by decide) (by decide) (by decide) (by decide)) (hP.fr f1 (by decide) (by decide) (by decide)) a3
          have f2 : fr1 [16, 17, 18, 19, 20, 21, 22] [7, 14, 15, 16, 17, 18, 19, 20] τ τ2 := f1.tr (b2.wk (by decide) (by decide))
          have h72 : ∀ n, n < c → τ2.2.1 7 n = nI (swp z.2 a b n) := fun n hn => by rw [b2.2 7 (by decide)]; exact a3 n hn
          rw [if_pos hbb, a1, bv_is, b1, bd_is]
          by_cases hlt : tmS w rd c en val (swp z.2 a b) < z.1
          · have e : exT w rd c en val bad a b z = (tmS w rd c en val (swp z.2 a b), swp z.2 a b) := by
              unfold exT
              rw [if_pos ⟨hba, hbb, hlt⟩]
            rw [if_neg (nI_ge hlt (by omega))]
            obtain ⟨τ', c1, c2, c3⟩ := ih r (b + 1) 1 (exT w rd c en val bad a b z) τ2 (by omega) (by omega) (by omega) hok.1 (hD.fr f2 (by decide) (by decide) (by decide) (by decide)) (hP.fr f2 (by decide) (by decide) (by decide)) ⟨by rw [e]; exact h72, fun s hs => by rw [f2.2 4 (by decide)]; exact hM.2 s hs⟩
            refine ⟨τ', ?_, f2.tr c2, c3⟩
            have hne : ¬ (exI w rd c en val bad a r (b + 1) (exT w rd c en val bad a b z)).1 = z.1 := by
              have h8 := hok2.2
              rw [e] at h8 ⊢
              have h9 : (exI w rd c en val bad a r (b + 1) (tmS w rd c en val (swp z.2 a b), swp z.2 a b)).1 ≤ tmS w rd c en val (swp z.2 a b) := h8
              omega
            rw [if_neg hne]
            have h10 : (if (exI w rd c en val bad a r (b + 1) (exT w rd c en val bad a b z)).1 = (exT w rd c en val bad a b z).1 then (1 : Int32) else 1) = 1 := by split <;> rfl
            rw [h10] at c1
            rw [← c1, e]
          · have e : exT w rd c en val bad a b z = z := by
              unfold exT
              rw [if_neg (fun q => hlt q.2.2)]
            obtain ⟨τ3, c1, c2, c3⟩ := m_swap hc ha hb h72
            rw [swp_swp _ (by omega)] at c3
            rw [if_pos (nI_le (by omega) (by omega)), c1, bv_is]
            exact same e τ3 (f2.tr (c2.wk (by decide) (by decide))) c3
        · rw [if_neg hbb]
          exact same (by unfold exT; rw [if_neg (fun q => hbb q.2.1)]) τ fr1.rf hM.1
      · rw [if_neg hba]
        exact same (by unfold exT; rw [if_neg (fun q => hba q.1)]) τ fr1.rf hM.1
theorem m_ex34 {w t : Nat} {rd pl : Nat → Nat} (hd : DOK w t rd pl) {c en : Nat} {val : Nat → Int32} {bad : Nat → Int32} (hc : c ≤ 40) (hen : en < c) (g19 : Int32 → Int32 → Int32 → St → Option (Int32 × St)) (x3 : Int32) : ∀ (f r a : Nat) (fl : Int32) (z : Nat × (Nat → Nat)) (τ : St), a + r = c → r < f → exOK w t rd pl c en val z → MD w t rd pl τ → MP c en val τ → ML c z.2 bad τ →
    ∃ τ', F_mX11_exchange_34 g19 f (nI z.1) fl x3 (nI a) τ = g19 (nI (exO w rd c en val bad r a z).1) (if (exO w rd c en val bad r a z).1 = z.1 then fl else 1) (x3 + 1) τ' ∧ fr1 [16, 17, 18, 19, 20, 21, 22] [7, 14, 15, 16, 17, 18, 19, 20] τ τ' ∧ ML c (exO w rd c en val bad r a z).2 bad τ' := by
  intro f
  induction f with
  | zero => intro r a fl z τ h1 h2; omega
  | succ f ih =>
    intro r a fl z τ har hrf hz hD hP hM
    unfold F_mX11_exchange_34
    rw [hP.1]
    cases r with
    | zero =>
      rw [if_pos (nI_le (show c ≤ a by omega) (by omega))]
      refine ⟨τ, ?_, fr1.rf, hM⟩
      show _ = g19 (nI z.1) (if z.1 = z.1 then fl else 1) _ _
      rw [if_pos rfl]
    | succ r =>
      have ha : a < c := by omega
      have hok := exI_ok (bad := bad) ha (c - (a + 1)) (a + 1) z (by omega) hz
      have hok2 := exO_ok (bad := bad) r (a + 1) _ (by omega) hok.1
      rw [if_neg (nI_ge ha (by omega)), nI_1]
      obtain ⟨τ1, a1, a2, a3⟩ := m_ex49 (bad := bad) hd hc hen g19 (F_mX11_exchange_34 g19 f) x3 ha FU (c - (a + 1)) (a + 1) fl z τ (by omega) (by omega) (by rw [FU_is]; omega) hz hD hP hM
      obtain ⟨τ', b1, b2, b3⟩ := ih r (a + 1) (if (exI w rd c en val bad a (c - (a + 1)) (a + 1) z).1 = z.1 then fl else 1) _ τ1 (by omega) (by omega) hok.1 (hD.fr a2 (by decide) (by decide) (by decide) (by decide)) (hP.fr a2 (by decide) (by decide) (by decide)) a3
      rw [flag_c hok2.2 hok.2] at b1
      exact ⟨τ', a1.trans b1, a2.tr b2, b3⟩
theorem m_ex19 {w t : Nat} {rd pl : Nat → Nat} (hd : DOK w t rd pl) {c en : Nat} {val : Nat → Int32} {bad : Nat → Int32} (hc : c ≤ 40) (hen : en < c) : ∀ (f r i : Nat) (z : Nat × (Nat → Nat)) (τ : St), i + r = 20 → r + 1 < f → exOK w t rd pl c en val z → MD w t rd pl τ → MP c en val τ → ML c z.2 bad τ →
    ∃ τ', F_mX11_exchange_19 f (nI z.1) 1 (nI i) τ = some (nI (exR w rd c en val bad r z).1, τ') ∧ fr1 [16, 17, 18, 19, 20, 21, 22] [7, 14, 15, 16, 17, 18, 19, 20] τ τ' ∧ ML c (exR w rd c en val bad r z).2 bad τ' := by
  intro f
  induction f with
  | zero => intro r i z τ h1 h2; omega
  | succ f ih =>
    intro r i z τ hir hrf hz hD hP hM
    unfold F_mX11_exchange_19
    cases r with
    | zero =>
      rw [if_pos (show (20 : Int32) ≤ nI i from nI_le (a := 20) (by omega) (by omega))]
      exact ⟨τ, rfl, fr1.rf, hM⟩
    | succ r =>
      have hO := exO_ok (bad := bad) c 0 z (by omega) hz
      have hzt := tmS_le (rd := rd) (en := en) (val := val) hd hc hen hz.1.1
      have hze := hz.2
      rw [if_neg (show ¬ (20 : Int32) ≤ nI i from nI_ge (b := 20) (by omega) (by omega)), if_neg (by decide)]
      obtain ⟨τ1, a1, a2, a3⟩ := m_ex34 (bad := bad) hd hc hen (F_mX11_exchange_19 f) (nI i) FU c 0 0 z τ (by omega) (by rw [FU_is]; omega) hz hD hP hM
      rw [show F_mX11_exchange_34 (F_mX11_exchange_19 f) FU (nI z.1) 0 (nI i) 0 τ = _ from a1, nI_1]
      unfold exR
      by_cases he : (exO w rd c en val bad c 0 z).1 = z.1
      · rw [if_pos he, if_pos he]
        refine ⟨τ1, ?_, a2, a3⟩
        cases f with
        | zero => omega
        | succ f =>
          unfold F_mX11_exchange_19
          by_cases h20 : (20 : Int32) ≤ nI (i + 1)
          · rw [if_pos h20]
          · rw [if_neg h20, if_pos rfl]
      · rw [if_neg he, if_neg he]
        obtain ⟨τ', b1, b2, b3⟩ := ih r (i + 1) _ τ1 (by omega) (by omega) hO.1 (hD.fr a2 (by decide) (by decide) (by decide) (by decide)) (hP.fr a2 (by decide) (by decide) (by decide)) a3
        exact ⟨τ', b1, a2.tr b2, b3⟩
theorem api_exchange : API F_xX10_exchange F_mX11_exchange := by
  intro q hq
  have hd := hq.2.1
  have hc : q.1 3 ≤ 40 := hq.2.2.1.1
  by_cases h0 : q.1 3 = 0
  · refine ⟨-4, q, hq, fun σ h => ⟨σ, ?_, h⟩, fun τ h => ⟨τ, ?_, h⟩⟩
    · unfold F_xX10_exchange
      rw [h.2.2.1.1, h0, if_pos nI_0]
    · unfold F_mX11_exchange
      rw [h.2.2.1.1, h0, if_pos nI_0]
  · have hen := en_lt hq h0
    obtain ⟨z, ez⟩ : ∃ z : Nat × (Nat → Nat), z = (tmS (q.1 1) (q.2.1 0) (q.1 3) (q.1 4) (q.2.2.2 1) (q.2.1 2), q.2.1 2) := ⟨_, rfl⟩
    have hz : exOK (q.1 1) (q.1 2) (q.2.1 0) (q.2.1 1) (q.1 3) (q.1 4) (q.2.2.2 1) z := by rw [ez]; exact ⟨hq.2.2.2.1, rfl⟩
    have e1 : z.1 = tmS (q.1 1) (q.2.1 0) (q.1 3) (q.1 4) (q.2.2.2 1) (q.2.1 2) := by rw [ez]
    have e2 : z.2 = q.2.1 2 := by rw [ez]
    have hok := exR_ok (bad := q.2.2.2 2) 20 z hz
    refine ⟨nI (exR (q.1 1) (q.2.1 0) (q.1 3) (q.1 4) (q.2.2.2 1) (q.2.2.2 2) 20 z).1, aF q 2 (exR (q.1 1) (q.2.1 0) (q.1 3) (q.1 4) (q.2.2.2 1) (q.2.2.2 2) 20 z).2, ⟨hq.1, hq.2.1, hq.2.2.1, hok.1, hq.2.2.2.2⟩, fun σ h => ?_, fun τ h => ?_⟩
    · obtain ⟨σ1, a1, a2, a3, -, -, a6⟩ := x_follow hc h.2.2.1 hen
      have hX := h.fr a2 (by decide) (by decide)
      obtain ⟨σ2, b1, b2, b3⟩ := x_ex14 (bad := q.2.2.2 2) hd hc hen FU 20 0 z σ1 rfl (by rw [FU_is]; omega) hz hX.2.1 (by rw [e2]; exact hX.2.2.2.1) ⟨a3, a6⟩
      refine ⟨σ2, ?_, AX_lay hX (b2.wk (by decide) (by decide)) b3⟩
      unfold F_xX10_exchange F_xX8_exchangePairs
      rw [h.2.2.1.1, if_neg (nI_ne0 (by omega) (by omega)), a1, bv_is, x_timeOf hd hc hen hq.2.2.2.1.1 (XS_of hX) a3 a6, bd_is, ← e1]
      rw [show F_xX8_exchangePairs_14 FU (nI z.1) 0 σ1 = _ from b1, bd_is]
    · obtain ⟨τ1, a1, a2⟩ := m_timeNow hd hq.2.2.2.1.1 hc hen h.2.1 h.2.2.1 h.2.2.2.1.1
      have h1 := h.fr a2 (by decide) (by decide)
      obtain ⟨τ2, b1, b2, b3⟩ := m_ex19 (bad := q.2.2.2 2) hd hc hen FU 20 0 z τ1 rfl (by rw [FU_is]; omega) hz h1.2.1 h1.2.2.1 (by rw [e2]; exact h1.2.2.2.1)
      refine ⟨τ2, ?_, AM_lay h1 (b2.wk (by decide) (by decide)) b3.1⟩
      unfold F_mX11_exchange
      rw [h.2.2.1.1, if_neg (nI_ne0 (by omega) (by omega)), a1, bd_is, ← e1]
      exact b1

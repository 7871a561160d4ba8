/-! place and mend -/
theorem vf_self {α : Type} (f : Nat → α) (k : Nat) : vf_upd f k (f k) = f := by
  funext j
  unfold vf_upd
  by_cases h : j = k
  · rw [if_pos h, h]
  · rw [if_neg h]
theorem vf_back {α : Type} (f : Nat → α) (k : Nat) (x : α) : vf_upd (vf_upd f k x) k (f k) = f := by rw [vf2, vf_self]
theorem aF_self (q : Ab) : aF q 2 (q.2.1 2) = q := by
  unfold aF
  rw [vf_self]
theorem tmS_le {w t : Nat} {rd pl : Nat → Nat} (hd : DOK w t rd pl) {c en : Nat} {val : Nat → Int32} {sp : Nat → Nat} (hc : c ≤ 40) (hen : en < c) (hs : ∀ n, n < c → there w t pl (sp n)) : tmS w rd c en val sp ≤ 260000 := by
  have h := tmL_le (ph := phF w sp) (rn_ok hd hs) (rev c 2000 (m0 val en)) 0 (rev_ok hc _ _ hen)
  have h1 := rev_len c 2000 (m0 val en)
  have h2 := rlen_le c 2000 (m0 val en)
  unfold tmS
  omega
/-- the class's course of the run is at hand -/
def XCo (c en : Nat) (val : Nat → Int32) (σ : St) : Prop := σ.1 18 = nI (rlen c 2000 (m0 val en)) ∧ TR (σ.2.1 38) 0 (rev c 2000 (m0 val en))
theorem XCo.fr {c en : Nat} {val : Nat → Int32} {σ σ' : St} {S Q : List Nat} (h : XCo c en val σ) (hf : fr1 S Q σ σ') (h1 : 18 ∉ S) (h2 : 38 ∉ Q) : XCo c en val σ' := ⟨(hf.1 18 h1).trans h.1, by rw [hf.2 38 h2]; exact h.2⟩
theorem XD.fr {w t : Nat} {rd pl : Nat → Nat} {σ σ' : St} {S Q : List Nat} (h : XD w t rd pl σ) (hf : fr1 S Q σ σ') (h1 : 7 ∉ S) (h2 : 8 ∉ S) (h3 : 4 ∉ Q) (h4 : 5 ∉ Q) : XD w t rd pl σ' := ⟨(hf.1 7 h1).trans h.1, (hf.1 8 h2).trans h.2.1, fun k hk => by rw [hf.2 4 h3, hf.2 5 h4]; exact h.2.2 k hk⟩
theorem MD.fr {w t : Nat} {rd pl : Nat → Nat} {τ τ' : St} {S Q : List Nat} (h : MD w t rd pl τ) (hf : fr1 S Q τ τ') (h1 : 8 ∉ S) (h2 : 9 ∉ S) (h3 : 2 ∉ Q) (h4 : 3 ∉ Q) : MD w t rd pl τ' := ⟨(hf.1 8 h1).trans h.1, (hf.1 9 h2).trans h.2.1, fun k hk => by rw [hf.2 2 h3, hf.2 3 h4]; exact h.2.2 k hk⟩
theorem MP.fr {c en : Nat} {val : Nat → Int32} {τ τ' : St} {S Q : List Nat} (h : MP c en val τ) (hf : fr1 S Q τ τ') (h1 : 12 ∉ S) (h2 : 13 ∉ S) (h3 : 6 ∉ Q) : MP c en val τ' := ⟨(hf.1 12 h1).trans h.1, (hf.1 13 h2).trans h.2.1, fun n hn => by rw [hf.2 6 h3]; exact h.2.2 n hn⟩
theorem fr_put {w : Nat} {rd : Nat → Nat} (n s : Nat) (σ : St) : fr1 [] [26, 27, 28, 29] σ (putS w rd n s σ) := (((fr1.rf.sA (by decide)).sA (by decide)).sA (by decide)).sA (by decide)
theorem fr_mov {w : Nat} {rd : Nat → Nat} (o n s : Nat) (σ : St) : fr1 [] [26, 27, 28, 29] σ (movS w rd o n s σ) := (fr1.rf.sA (by decide) : fr1 [] [26, 27, 28, 29] σ (sA σ 29 (upd (σ.2.1 29) o (-1)))).tr (fr_put n s _)
abbrev candP (w t : Nat) (pl : Nat → Nat) (c : Nat) (sp : Nat → Nat) (bad : Nat → Int32) (n s : Nat) : Prop := s % w < pl (s / w) ∧ bad s = 0 ∧ (s = sp n ∨ ∀ m, m < c → sp m ≠ s)
def plS (w t : Nat) (rd pl : Nat → Nat) (c en : Nat) (val : Nat → Int32) (sp : Nat → Nat) (bad : Nat → Int32) (n : Nat) : Nat → Option (Nat × Nat)
  | 0 => none
  | s + 1 => if candP w t pl c sp bad n s then (match plS w t rd pl c en val sp bad n s with
    | none => some (s, tmS w rd c en val (vf_upd sp n s))
    | some bl => if tmS w rd c en val (vf_upd sp n s) < bl.2 then some (s, tmS w rd c en val (vf_upd sp n s)) else some bl) else plS w t rd pl c en val sp bad n s
/-- best and least, as numbers -/
def bI (o : Option (Nat × Nat)) : Int32 := match o with
  | none => -1
  | some b => nI b.1
def lI (o : Option (Nat × Nat)) : Int32 := match o with
  | none => 0
  | some b => nI b.2
theorem pl_ok {w t : Nat} {rd pl : Nat → Nat} (hd : DOK w t rd pl) {c en : Nat} {val : Nat → Int32} {sp : Nat → Nat} {bad : Nat → Int32} {n : Nat} (hL : LOK w t pl c sp) (hc : c ≤ 40) (hen : en < c) (hn : n < c) : ∀ s, s ≤ t * w → ∀ b, plS w t rd pl c en val sp bad n s = some b → there w t pl b.1 ∧ bad b.1 = 0 ∧ (∀ m, m < c → m ≠ n → sp m ≠ b.1) ∧ b.2 ≤ 260000 := by
  intro s
  induction s with
  | zero => intro _ b h; cases h
  | succ s ih =>
    intro hs b h
    have hcand : candP w t pl c sp bad n s → there w t pl s ∧ bad s = 0 ∧ (∀ m, m < c → m ≠ n → sp m ≠ s) ∧ tmS w rd c en val (vf_upd sp n s) ≤ 260000 := by
      intro hcd
      have h1 : there w t pl s := ⟨by omega, hcd.1⟩
      have h2 : ∀ m, m < c → m ≠ n → sp m ≠ s := by
        intro m hm hmn e
        rcases hcd.2.2 with h3 | h3
        · exact hmn (hL.2 m n hm hn (e.trans h3))
        · exact h3 m hm e
      exact ⟨h1, hcd.2.1, h2, tmS_le hd hc hen (LOK_move hL h1 h2).1⟩
    unfold plS at h
    by_cases hcd : candP w t pl c sp bad n s
    · rw [if_pos hcd] at h
      have hk := hcand hcd
      cases hp : plS w t rd pl c en val sp bad n s with
      | none =>
        rw [hp] at h
        cases h
        exact ⟨hk.1, hk.2.1, hk.2.2.1, hk.2.2.2⟩
      | some bl =>
        rw [hp] at h
        dsimp only at h
        by_cases hlt : tmS w rd c en val (vf_upd sp n s) < bl.2
        · rw [if_pos hlt] at h
          cases h
          exact ⟨hk.1, hk.2.1, hk.2.2.1, hk.2.2.2⟩
        · rw [if_neg hlt] at h
          cases h
          exact ih (by omega) _ hp
    · rw [if_neg hcd] at h
      exact ih (by omega) b h
theorem x_place27 {w t : Nat} {rd pl : Nat → Nat} (hd : DOK w t rd pl) {c en : Nat} {val : Nat → Int32} {sp : Nat → Nat} {bad : Nat → Int32} {n : Nat} (hL : LOK w t pl c sp) (hc : c ≤ 40) (hen : en < c) (hn : n < c) (hB : BOK bad) : ∀ (k s : Nat) (σ : St), s ≤ t * w → t * w < k + s → XD w t rd pl σ → XL w rd c sp bad σ → XCo c en val σ →
    ∃ σ', F_xX8_findPlace_27 k (nI n) (nI (sp n)) (bI (plS w t rd pl c en val sp bad n s)) (lI (plS w t rd pl c en val sp bad n s)) (nI (t * w)) (nI s) σ = some (bI (plS w t rd pl c en val sp bad n (t * w)), σ') ∧ fr1 [] [26, 27, 28, 29] σ σ' ∧ XL w rd c sp bad σ' := by
  intro k
  induction k with
  | zero => intro s σ h1 h2; omega
  | succ k ih =>
    intro s σ h1 h2 hD hX hC
    have h128 := dw_lt hd
    have hown := there_lt hd (hL.1 n hn)
    unfold F_xX8_findPlace_27
    by_cases e : s = t * w
    · subst e
      rw [if_pos (nI_le (Nat.le_refl _) (by omega))]
      exact ⟨σ, rfl, fr1.rf, hX⟩
    have hs : s < t * w := by omega
    rw [if_neg (nI_ge hs (by omega)), if_neg (show ¬ (128 : Int32) ≤ nI s from nI_ge (b := 128) (by omega) (by omega))]
    have skip : ¬ candP w t pl c sp bad n s → ∃ σ', F_xX8_findPlace_27 k (nI n) (nI (sp n)) (bI (plS w t rd pl c en val sp bad n s)) (lI (plS w t rd pl c en val sp bad n s)) (nI (t * w)) (nI s + 1) σ = some (bI (plS w t rd pl c en val sp bad n (t * w)), σ') ∧ fr1 [] [26, 27, 28, 29] σ σ' ∧ XL w rd c sp bad σ' := by
      intro hcd
      have := ih (s + 1) σ (by omega) (by omega) hD hX hC
      have e2 : plS w t rd pl c en val sp bad n (s + 1) = plS w t rd pl c en val sp bad n s := by
        show (if candP w t pl c sp bad n s then _ else _) = _
        rw [if_neg hcd]
      rw [e2] at this
      rw [nI_1]
      exact this
    have take : candP w t pl c sp bad n s → ∃ σ', F_xX8_findPlace_67 (F_xX8_findPlace_27 k) (nI n) (nI (sp n)) (bI (plS w t rd pl c en val sp bad n s)) (lI (plS w t rd pl c en val sp bad n s)) (nI (t * w)) (nI s) 1 σ = some (bI (plS w t rd pl c en val sp bad n (t * w)), σ') ∧ fr1 [] [26, 27, 28, 29] σ σ' ∧ XL w rd c sp bad σ' := by
      intro hcd
      have hth : there w t pl s := ⟨hs, hcd.1⟩
      have hno : ∀ m, m < c → m ≠ n → sp m ≠ s := by
        intro m hm hmn e3
        rcases hcd.2.2 with h3 | h3
        · exact hmn (hL.2 m n hm hn (e3.trans h3))
        · exact h3 m hm e3
      have hL2 := LOK_move hL hth hno
      have hX1 := XL_move hL hX hn hno
      have f1 := fr_mov (w := w) (rd := rd) (sp n) n s σ
      have hD1 := hD.fr f1 (by decide) (by decide) (by decide) (by decide)
      have hC1 := hC.fr f1 (by decide) (by decide)
      have ht := x_timeOf hd hc hen hL2.1 (XL_iff.mp hX1).2.1 hC1.1 hC1.2
      have e26 : (movS w rd (sp n) n s σ).2.1 26 n = nI s := by
        have := (hX1.2.1 n hn).1
        unfold vf_upd at this
        rw [if_pos rfl] at this
        exact this
      have hmv := x_move hd hD1 (s := sp n) (show n < 40 by omega) (there_lt hd hth).1 e26 (hL.1 n hn)
      have hX2 : XL w rd c sp bad (movS w rd s n (sp n) (movS w rd (sp n) n s σ)) := by
        have := XL_move hL2 hX1 (s := sp n) hn (fun m hm hmn => by
          unfold vf_upd
          rw [if_neg hmn]
          exact fun z => hmn (hL.2 m n hm hn z))
        rw [vf_back] at this
        unfold vf_upd at this
        rw [if_pos rfl] at this
        exact this
      have f2 := fr_mov (w := w) (rd := rd) s n (sp n) (movS w rd (sp n) n s σ)
      have hD2 := hD1.fr f2 (by decide) (by decide) (by decide) (by decide)
      have hC2 := hC1.fr f2 (by decide) (by decide)
      have hT := tmS_le (rd := rd) (en := en) (val := val) hd hc hen hL2.1
      unfold F_xX8_findPlace_67
      rw [if_neg (by decide), if_pos (ib_nI (by omega) (by omega)), nI_clamp (by omega), hX.2.2.2 s (by omega), hcd.2.1, if_pos rfl, x_has_y hd hD hth, bd_is, if_neg (by decide), x_move hd hD (by omega) hown.1 (hX.2.1 n hn).1 hth, bv_is, ht, bd_is, hmv, bv_is, nI_1]
      obtain ⟨σ', a1, a2, a3⟩ := ih (s + 1) _ (by omega) (by omega) hD2 hX2 hC2
      refine ⟨σ', ?_, (f1.tr f2).tr a2, a3⟩
      rw [← a1]
      have e2 : plS w t rd pl c en val sp bad n (s + 1) = (match plS w t rd pl c en val sp bad n s with
        | none => some (s, tmS w rd c en val (vf_upd sp n s))
        | some bl => if tmS w rd c en val (vf_upd sp n s) < bl.2 then some (s, tmS w rd c en val (vf_upd sp n s)) else some bl) := by
        show (if candP w t pl c sp bad n s then _ else _) = _
        rw [if_pos hcd]
      rw [e2]
      cases hp : plS w t rd pl c en val sp bad n s with
      | none =>
        show (if (-1 : Int32) = -1 then _ else _) = _
        rw [if_pos rfl]
        rfl
      | some bl =>
        have hb := pl_ok hd hL hc hen hn s (by omega) bl hp
        have hbl := (there_lt hd hb.1).1
        show (if nI bl.1 = -1 then _ else (if nI bl.2 ≤ _ then _ else _)) = _
        rw [if_neg (m1_ne _ (by omega))]
        dsimp only
        by_cases hlt : tmS w rd c en val (vf_upd sp n s) < bl.2
        · rw [if_neg (nI_ge hlt (by omega)), if_pos hlt]
          rfl
        · rw [if_pos (nI_le (by omega) (by omega)), if_neg hlt]
    by_cases ho : s = sp n
    · rw [if_pos (by rw [ho])]
      rcases hB s (by omega) with hb | hb
      · exact take ⟨by rw [ho]; exact (hL.1 n hn).2, hb, Or.inl ho⟩
      · unfold F_xX8_findPlace_67
        rw [if_neg (by decide), if_pos (ib_nI (by omega) (by omega)), nI_clamp (by omega), hX.2.2.2 s (by omega), hb, if_neg (by decide)]
        exact skip (fun hcd => absurd (hb.symm.trans hcd.2.1) (by decide))
    · rw [if_neg (by rw [nI_eq (by omega) (by omega)]; exact ho), if_pos (ib_nI (by omega) (by omega)), nI_clamp (by omega)]
      by_cases hl : ∃ a, a < c ∧ sp a = s
      · obtain ⟨a, ha, rfl⟩ := hl
        rw [(hX.2.1 a ha).2.2.2, if_neg (m1_ne a (by omega))]
        unfold F_xX8_findPlace_67
        rw [if_pos rfl]
        refine skip (fun hcd => ?_)
        rcases hcd.2.2 with h3 | h3
        · exact ho h3
        · exact h3 a ha rfl
      · have hl2 : ∀ m, m < c → sp m ≠ s := fun m hm z => hl ⟨m, hm, z⟩
        rw [hX.2.2.1 s (by omega) hl2, if_pos rfl]
        rcases hB s (by omega) with hb | hb
        · by_cases hp : s % w < pl (s / w)
          · exact take ⟨hp, hb, Or.inr hl2⟩
          · unfold F_xX8_findPlace_67
            rw [if_neg (by decide), if_pos (ib_nI (by omega) (by omega)), nI_clamp (by omega), hX.2.2.2 s (by omega), hb, if_pos rfl, x_has_n hd hD (x := nI s) (fun s' hs' e3 => by
              have := (nI_eq (show s < 2 ^ 31 by omega) hs').mp e3
              subst this
              exact fun z => hp z.2), bd_is, if_pos rfl]
            exact skip (fun hcd => hp hcd.1)
        · unfold F_xX8_findPlace_67
          rw [if_neg (by decide), if_pos (ib_nI (by omega) (by omega)), nI_clamp (by omega), hX.2.2.2 s (by omega), hb, if_neg (by decide)]
          exact skip (fun hcd => absurd (hb.symm.trans hcd.2.1) (by decide))
theorem x_findPlace {w t : Nat} {rd pl : Nat → Nat} (hd : DOK w t rd pl) {c en : Nat} {val : Nat → Int32} {sp : Nat → Nat} {bad : Nat → Int32} {n : Nat} (hL : LOK w t pl c sp) (hc : c ≤ 40) (hen : en < c) (hn : n < c) (hB : BOK bad) {σ : St} (hD : XD w t rd pl σ) (hX : XL w rd c sp bad σ) (hC : XCo c en val σ) :
    ∃ σ', F_xX8_findPlace (nI n) σ = some (bI (plS w t rd pl c en val sp bad n (t * w)), σ') ∧ fr1 [] [26, 27, 28, 29] σ σ' ∧ XL w rd c sp bad σ' := by
  have h128 := dw_lt hd
  unfold F_xX8_findPlace
  rw [if_pos (ib_nI (by omega) (by omega)), x_end hd hD, bd_is, nI_clamp (by omega), (hX.2.1 n hn).1]
  exact x_place27 hd hL hc hen hn hB FU 0 σ (Nat.zero_le _) (by rw [FU_is]; omega) hD hX hC
theorem m_place26 {w t : Nat} {rd pl : Nat → Nat} (hd : DOK w t rd pl) {c en : Nat} {val : Nat → Int32} {sp : Nat → Nat} {bad : Nat → Int32} {n : Nat} (hL : LOK w t pl c sp) (hc : c ≤ 40) (hen : en < c) (hn : n < c) (hB : BOK bad) : ∀ (k s : Nat) (τ : St), s ≤ t * w → t * w < k + s → MD w t rd pl τ → MP c en val τ → (∀ m, m < c → m ≠ n → τ.2.1 7 m = nI (sp m)) → (∀ s, s < 128 → τ.2.1 4 s = bad s) →
    ∃ τ', F_mX11_place_26 k (nI n) (nI (sp n)) (bI (plS w t rd pl c en val sp bad n s)) (lI (plS w t rd pl c en val sp bad n s)) (nI s) τ = some (bI (plS w t rd pl c en val sp bad n (t * w)), τ') ∧ fr1 [16, 17, 18, 19, 20, 21, 22] [7, 14, 15, 16, 17, 18, 19, 20] τ τ' ∧ ∀ m, m < c → τ'.2.1 7 m = nI (sp m) := by
  intro k
  induction k with
  | zero => intro s τ h1 h2; omega
  | succ k ih =>
    intro s τ h1 h2 hD hP h7 h4
    have h128 := dw_lt hd
    have hown := there_lt hd (hL.1 n hn)
    have hup : ∀ m, m < c → upd (τ.2.1 7) n (nI (sp n)) m = nI (sp m) := by
      intro m hm
      rw [u_is]
      by_cases e : m = n
      · rw [if_pos e, e]
      · rw [if_neg e]; exact h7 m hm e
    have f1 : fr1 [16, 17, 18, 19, 20, 21, 22] [7, 14, 15, 16, 17, 18, 19, 20] τ (sA τ 7 (upd (τ.2.1 7) n (nI (sp n)))) := fr1.rf.sA (by decide)
    have hD1 : MD w t rd pl (sA τ 7 (upd (τ.2.1 7) n (nI (sp n)))) := hD
    have hP1 : MP c en val (sA τ 7 (upd (τ.2.1 7) n (nI (sp n)))) := hP
    unfold F_mX11_place_26
    rw [hD.1, hD.2.1, pk_mul]
    by_cases e : s = t * w
    · subst e
      rw [if_pos (nI_le (Nat.le_refl _) (by omega)), if_pos (ib_nI (by omega) (by omega)), nI_clamp (by omega)]
      exact ⟨_, rfl, f1, hup⟩
    have hs : s < t * w := by omega
    rw [if_neg (nI_ge hs (by omega)), if_pos (ib_nI (by omega) (by omega)), nI_clamp (by omega)]
    generalize hτ1 : sA τ 7 (upd (τ.2.1 7) n (nI (sp n))) = τ1 at *
    have h71 : ∀ m, m < c → τ1.2.1 7 m = nI (sp m) := by rw [← hτ1]; exact hup
    have h41 : ∀ s, s < 128 → τ1.2.1 4 s = bad s := by rw [← hτ1]; exact h4
    have skip : ¬ candP w t pl c sp bad n s → ∃ τ', F_mX11_place_26 k (nI n) (nI (sp n)) (bI (plS w t rd pl c en val sp bad n s)) (lI (plS w t rd pl c en val sp bad n s)) (nI s + 1) τ1 = some (bI (plS w t rd pl c en val sp bad n (t * w)), τ') ∧ fr1 [16, 17, 18, 19, 20, 21, 22] [7, 14, 15, 16, 17, 18, 19, 20] τ τ' ∧ ∀ m, m < c → τ'.2.1 7 m = nI (sp m) := by
      intro hcd
      obtain ⟨τ', a1, a2, a3⟩ := ih (s + 1) τ1 (by omega) (by omega) hD1 hP1 (fun m hm _ => h71 m hm) h41
      have e2 : plS w t rd pl c en val sp bad n (s + 1) = plS w t rd pl c en val sp bad n s := by
        show (if candP w t pl c sp bad n s then _ else _) = _
        rw [if_neg hcd]
      rw [e2] at a1
      rw [nI_1]
      exact ⟨τ', a1, f1.tr a2, a3⟩
    have take : candP w t pl c sp bad n s → ∃ τ', F_mX11_place_85 (F_mX11_place_26 k) (nI n) (nI (sp n)) (bI (plS w t rd pl c en val sp bad n s)) (lI (plS w t rd pl c en val sp bad n s)) (nI s) τ1 = some (bI (plS w t rd pl c en val sp bad n (t * w)), τ') ∧ fr1 [16, 17, 18, 19, 20, 21, 22] [7, 14, 15, 16, 17, 18, 19, 20] τ τ' ∧ ∀ m, m < c → τ'.2.1 7 m = nI (sp m) := by
      intro hcd
      have hth : there w t pl s := ⟨hs, hcd.1⟩
      have hno : ∀ m, m < c → m ≠ n → sp m ≠ s := by
        intro m hm hmn e3
        rcases hcd.2.2 with h3 | h3
        · exact hmn (hL.2 m n hm hn (e3.trans h3))
        · exact h3 m hm e3
      have hL2 := LOK_move hL hth hno
      have f2 : fr1 [16, 17, 18, 19, 20, 21, 22] [7, 14, 15, 16, 17, 18, 19, 20] τ1 (sA τ1 7 (upd (τ1.2.1 7) n (nI s))) := fr1.rf.sA (by decide)
      obtain ⟨τ2, b1, b2⟩ := m_timeNow hd hL2.1 hc hen (τ := sA τ1 7 (upd (τ1.2.1 7) n (nI s))) hD1 hP1 (fun m hm => by
        show upd (τ1.2.1 7) n (nI s) m = nI (vf_upd sp n s m)
        rw [u_is]
        unfold vf_upd
        by_cases e3 : m = n
        · rw [if_pos e3, if_pos e3]
        · rw [if_neg e3, if_neg e3]; exact h71 m hm)
      have f3 : fr1 [16, 17, 18, 19, 20, 21, 22] [7, 14, 15, 16, 17, 18, 19, 20] τ1 τ2 := f2.tr (b2.wk (by decide) (by decide))
      have hT := tmS_le (rd := rd) (en := en) (val := val) hd hc hen hL2.1
      obtain ⟨τ', a1, a2, a3⟩ := ih (s + 1) τ2 (by omega) (by omega) (hD1.fr f3 (by decide) (by decide) (by decide) (by decide)) (hP1.fr f3 (by decide) (by decide) (by decide)) (fun m hm hmn => by
        rw [b2.2 7 (by decide)]
        show upd (τ1.2.1 7) n (nI s) m = _
        rw [u_is, if_neg hmn]
        exact h71 m hm) (fun s hs => by rw [f3.2 4 (by decide)]; exact h41 s hs)
      refine ⟨τ', ?_, (f1.tr f3).tr a2, a3⟩
      unfold F_mX11_place_85
      rw [if_pos (ib_nI (by omega) (by omega)), nI_clamp (by omega), b1, bd_is, nI_1, ← a1]
      have e2 : plS w t rd pl c en val sp bad n (s + 1) = (match plS w t rd pl c en val sp bad n s with
        | none => some (s, tmS w rd c en val (vf_upd sp n s))
        | some bl => if tmS w rd c en val (vf_upd sp n s) < bl.2 then some (s, tmS w rd c en val (vf_upd sp n s)) else some bl) := by
        show (if candP w t pl c sp bad n s then _ else _) = _
        rw [if_pos hcd]
      rw [e2]
      cases hp : plS w t rd pl c en val sp bad n s with
      | none =>
        show (if (-1 : Int32) = -1 then _ else _) = _
        rw [if_pos rfl]
        rfl
      | some bl =>
        have hb := pl_ok hd hL hc hen hn s (by omega) bl hp
        have hbl := (there_lt hd hb.1).1
        show (if nI bl.1 = -1 then _ else (if _ < nI bl.2 then _ else _)) = _
        rw [if_neg (m1_ne _ (by omega))]
        dsimp only
        by_cases hlt : tmS w rd c en val (vf_upd sp n s) < bl.2
        · rw [if_pos (nI_lt hlt (by omega)), if_pos hlt]
          rfl
        · rw [if_neg (nI_nlt (by omega) (by omega)), if_neg hlt]
    by_cases hp : s % w < pl (s / w)
    · rw [m_th_y hd hD1 ⟨hs, hp⟩, bd_is, if_neg (by decide), if_pos (ib_nI (by omega) (by omega)), nI_clamp (by omega), h41 s (by omega)]
      rcases hB s (by omega) with hb | hb
      · rw [hb, if_pos rfl]
        by_cases ho : s = sp n
        · rw [if_pos (by rw [ho])]
          exact take ⟨hp, hb, Or.inl ho⟩
        · rw [if_neg (by rw [nI_eq (by omega) (by omega)]; exact ho)]
          rcases m_lies hd hL hc hP1.1 h71 (show s < 128 by omega) with ⟨a, ha, e3, he⟩ | ⟨hno, he⟩
          · rw [he, bd_is, if_neg (m1_ne a (by omega))]
            refine skip (fun hcd => ?_)
            rcases hcd.2.2 with h3 | h3
            · exact ho h3
            · exact h3 a ha e3
          · rw [he, bd_is, if_pos rfl]
            exact take ⟨hp, hb, Or.inr hno⟩
      · rw [hb, if_neg (by decide)]
        exact skip (fun hcd => absurd (hb.symm.trans hcd.2.1) (by decide))
    · rw [m_th_n hd hD1 (x := nI s) (fun s' hs' e3 => by
        have := (nI_eq (show s < 2 ^ 31 by omega) hs').mp e3
        subst this
        exact fun z => hp z.2), bd_is, if_pos rfl]
      exact skip (fun hcd => hp hcd.1)
theorem m_place {w t : Nat} {rd pl : Nat → Nat} (hd : DOK w t rd pl) {c en : Nat} {val : Nat → Int32} {sp : Nat → Nat} {bad : Nat → Int32} {n : Nat} (hL : LOK w t pl c sp) (hc : c ≤ 40) (hen : en < c) (hn : n < c) (hB : BOK bad) {τ : St} (hD : MD w t rd pl τ) (hP : MP c en val τ) (hM : ML c sp bad τ) :
    ∃ τ', F_mX11_place (nI n) τ = some (bI (plS w t rd pl c en val sp bad n (t * w)), τ') ∧ fr1 [16, 17, 18, 19, 20, 21, 22] [7, 14, 15, 16, 17, 18, 19, 20] τ τ' ∧ ∀ m, m < c → τ'.2.1 7 m = nI (sp m) := by
  have h128 := dw_lt hd
  unfold F_mX11_place
  rw [isn_y hP hc hn, bd_is, if_neg (by decide), if_pos (ib_nI (by omega) (by omega)), nI_clamp (by omega), hM.1 n hn]
  exact m_place26 hd hL hc hen hn hB FU 0 τ (Nat.zero_le _) (by rw [FU_is]; omega) hD hP (fun m hm _ => hM.1 m hm) hM.2
/-- a laying changed: all else stands -/
theorem AX_lay {q : Ab} {σ σ' : St} {sp : Nat → Nat} (h : AX q σ) (hf : fr1 [18, 19, 20, 21, 22, 31] [26, 27, 28, 29, 38, 39, 40, 53, 54, 55] σ σ') (hX : XL (q.1 1) (q.2.1 0) (q.1 3) sp (q.2.2.2 2) σ') : AX (aF q 2 sp) σ' := by
  have i : ∀ k, k ∉ [18, 19, 20, 21, 22, 31] → σ'.1 k = σ.1 k := fun k hk => hf.1 k hk
  have a : ∀ k, k ∉ [26, 27, 28, 29, 38, 39, 40, 53, 54, 55] → σ'.2.1 k = σ.2.1 k := fun k hk => hf.2 k hk
  obtain ⟨h1, h2, h3, -, h5, h6, h7⟩ := h
  refine ⟨?_, ?_, ?_, hX, ?_, ?_, ?_⟩
  · unfold XT at h1 ⊢
    rw [i 0 (by decide), i 5 (by decide), i 6 (by decide), a 2 (by decide)]
    exact h1
  · exact h2.fr hf (by decide) (by decide) (by decide) (by decide)
  · exact h3.fr hf (by decide) (by decide) (by decide)
  · unfold XK at h5 ⊢
    rw [a 36 (by decide), a 32 (by decide), a 33 (by decide), a 34 (by decide), a 35 (by decide)]
    exact h5
  · unfold XR at h6 ⊢
    rw [i 23 (by decide), i 24 (by decide), i 25 (by decide), i 26 (by decide), i 27 (by decide), i 28 (by decide), i 29 (by decide), i 30 (by decide), a 42 (by decide), a 43 (by decide), a 44 (by decide), a 45 (by decide), a 46 (by decide), a 47 (by decide), a 48 (by decide), a 49 (by decide), a 50 (by decide)]
    exact h6
  · unfold XJ at h7 ⊢
    rw [i 32 (by decide), a 57 (by decide), a 58 (by decide), a 59 (by decide)]
    exact h7
theorem AM_lay {q : Ab} {τ τ' : St} {sp : Nat → Nat} (h : AM q τ) (hf : fr1 [16, 17, 18, 19, 20, 21, 22] [7, 14, 15, 16, 17, 18, 19, 20, 24, 25, 26] τ τ') (hX : ∀ n, n < q.1 3 → τ'.2.1 7 n = nI (sp n)) : AM (aF q 2 sp) τ' := by
  have i : ∀ k, k ∉ [16, 17, 18, 19, 20, 21, 22] → τ'.1 k = τ.1 k := fun k hk => hf.1 k hk
  have a : ∀ k, k ∉ [7, 14, 15, 16, 17, 18, 19, 20, 24, 25, 26] → τ'.2.1 k = τ.2.1 k := fun k hk => hf.2 k hk
  obtain ⟨h1, h2, h3, h4, h5, h6, h7⟩ := h
  refine ⟨?_, ?_, ?_, ⟨hX, ?_⟩, ?_, ?_, ?_⟩
  · unfold MT at h1 ⊢
    rw [i 0 (by decide), i 6 (by decide), i 7 (by decide), a 1 (by decide)]
    exact h1
  · exact h2.fr hf (by decide) (by decide) (by decide) (by decide)
  · exact h3.fr hf (by decide) (by decide) (by decide)
  · rw [a 4 (by decide)]
    exact h4.2
  · unfold MK at h5 ⊢
    rw [a 27 (by decide), a 28 (by decide)]
    exact h5
  · unfold MR at h6 ⊢
    rw [i 23 (by decide), i 24 (by decide), a 21 (by decide), a 22 (by decide), a 23 (by decide)]
    exact h6
  · unfold MJ at h7 ⊢
    rw [i 25 (by decide), a 31 (by decide), a 32 (by decide)]
    exact h7
theorem api_place (x : Int32) : API (F_xX10_place x) (F_mX11_place x) := by
  intro q hq
  have hd := hq.2.1
  have hc : q.1 3 ≤ 40 := hq.2.2.1.1
  rcases nm_cases x (c := q.1 3) (by omega) with ⟨n, hn, rfl⟩ | ⟨hx, -⟩
  · have hen := en_lt hq (by omega)
    refine ⟨bI (plS (q.1 1) (q.1 2) (q.2.1 0) (q.2.1 1) (q.1 3) (q.1 4) (q.2.2.2 1) (q.2.1 2) (q.2.2.2 2) n (q.1 2 * q.1 1)), q, hq, fun σ h => ?_, fun τ h => ?_⟩
    · obtain ⟨σ1, a1, a2, a3, -, -, a6⟩ := x_follow hc h.2.2.1 hen
      have hX := h.fr a2 (by decide) (by decide)
      obtain ⟨σ2, b1, b2, b3⟩ := x_findPlace hd hq.2.2.2.1 hc hen hn hq.2.2.2.2.1 hX.2.1 hX.2.2.2.1 ⟨a3, a6⟩
      refine ⟨σ2, ?_, ?_⟩
      · unfold F_xX10_place
        rw [has_y h.2.2.1 hc hn, bd_is, if_neg (by decide), a1, bv_is, b1, bd_is]
      · have := AX_lay hX (b2.wk (by decide) (by decide)) b3
        rw [aF_self] at this
        exact this
    · obtain ⟨τ1, a1, a2, a3⟩ := m_place hd hq.2.2.2.1 hc hen hn hq.2.2.2.2.1 h.2.1 h.2.2.1 h.2.2.2.1
      refine ⟨τ1, a1, ?_⟩
      have := AM_lay h (a2.wk (by decide) (by decide)) a3
      rw [aF_self] at this
      exact this
  · refine ⟨-2, q, hq, fun σ h => ⟨σ, ?_, h⟩, fun τ h => ⟨τ, ?_, h⟩⟩
    · unfold F_xX10_place
      rw [has_n h.2.2.1 hx, bd_is, if_pos rfl]
    · unfold F_mX11_place
      rw [isn_n h.2.2.1 hc hx, bd_is, if_pos rfl]

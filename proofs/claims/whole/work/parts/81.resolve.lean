/-! names of a program become places -/
def agI (D : Nat → Ln) (n l : Nat) : Int32 := if la (D l) = 0 then 0 else fdX D (la (D l)) n 0
def nxI (D : Nat → Ln) (n l : Nat) : Int32 := if lb (D l) = 0 then nI (if n - 1 < l + 1 then n - 1 else l + 1) else fdX D (lb (D l)) n 0
def vlI (D : Nat → Ln) (n l : Nat) : Int32 := if ln (D l) = true then lv (D l) else ((nI (lo (D l)) * 10000) + (agI D n l * 100)) + nxI D n l
def okA (D : Nat → Ln) (n l : Nat) : Prop := la (D l) ≠ 0 → fdX D (la (D l)) n 0 ≠ -1
def okB (D : Nat → Ln) (n l : Nat) : Prop := lb (D l) ≠ 0 → fdX D (lb (D l)) n 0 ≠ -1
theorem x_failat {p : Nat} {v : Int32} (hv : v = nI p) (σ : St) : (bd (F_xX9_fail 5 v σ) fun r3 σ_r3 => (if nb r3 = true then (some (r3, σ_r3)) else none)) = some (0, xF 5 p σ) := by
  unfold F_xX9_fail
  rw [bd_is, if_pos (by decide), hv]
  rfl
theorem x_resolve {D : Nat → Ln} {n l : Nat} (hn : n ≤ 40) (hl : l < n) {σ : St} (h14 : σ.1 14 = nI n) (hF : ∀ l, l < n → lc (D l) < 2 ^ 30 ∧ σ.2.1 19 l = nI (lc (D l))) (ho : LO (D l)) (hnum : ln (D l) = false) (h24 : σ.2.1 24 l = nI (lo (D l))) (h20 : σ.2.1 20 l = nI (la (D l))) (h21 : σ.2.1 21 l = nI (lb (D l))) (h22 : la (D l) ≠ 0 → σ.2.1 22 l = nI (lpa (D l))) (h23 : lb (D l) ≠ 0 → σ.2.1 23 l = nI (lpb (D l))) :
    (¬ okA D n l ∧ F_xX6_resolve (nI l) σ = some (0, xF 5 (lpa (D l)) σ)) ∨ (okA D n l ∧ ¬ okB D n l ∧ F_xX6_resolve (nI l) σ = some (0, xF 5 (lpb (D l)) σ)) ∨ (okA D n l ∧ okB D n l ∧ F_xX6_resolve (nI l) σ = some (1, sA σ 16 (upd (σ.2.1 16) l (vlI D n l)))) := by
  have hla := ho.2.2.2.1
  have hlb := ho.2.2.2.2.1
  unfold F_xX6_resolve
  rw [if_pos (ib_nI (by omega) (by omega)), nI_clamp (by omega), h20]
  have e1 : (if nI (la (D l)) = 0 then F_xX6_resolve_23 (nI l) 0 σ else (bd (F_xX6_find (nI (la (D l))) σ) fun r16 σ_r16 => (F_xX6_resolve_23 (nI l) r16 σ_r16))) = F_xX6_resolve_23 (nI l) (agI D n l) σ := by
    unfold agI
    by_cases e : la (D l) = 0
    · rw [if_pos (by rw [e]; rfl), if_pos e]
    · rw [if_neg (nI_ne0 (by omega) (by omega)), if_neg e, x_find hn hla h14 hF, bd_is]
  rw [e1]
  unfold F_xX6_resolve_23
  by_cases eA : agI D n l = -1
  · left
    have hne : la (D l) ≠ 0 := by
      intro z
      unfold agI at eA
      rw [if_pos z] at eA
      exact absurd eA (by decide)
    refine ⟨fun z => ?_, ?_⟩
    · refine z hne ?_
      unfold agI at eA
      rw [if_neg hne] at eA
      exact eA
    · rw [if_pos eA, if_pos (ib_nI (by omega) (by omega)), nI_clamp (by omega)]
      exact x_failat (h22 hne) σ
  · right
    have hokA : okA D n l := by
      intro hne z
      apply eA
      unfold agI
      rw [if_neg hne]
      exact z
    rw [if_neg eA, nm_is, h14, nI_sub1 (by omega) (by omega), nI_1, if_pos (ib_nI (by omega) (by omega)), nI_clamp (by omega), h21]
    have e7 : (if nI (n - 1) < nI (l + 1) then nI (n - 1) else nI (l + 1)) = nI (if n - 1 < l + 1 then n - 1 else l + 1) := by
      by_cases z : n - 1 < l + 1
      · rw [if_pos (nI_lt z (by omega)), if_pos z]
      · rw [if_neg (nI_nlt (by omega) (by omega)), if_neg z]
    have e2 : (if nI (lb (D l)) = 0 then F_xX6_resolve_80 (nI l) (agI D n l) (if nI (n - 1) < nI (l + 1) then nI (n - 1) else nI (l + 1)) σ else (bd (F_xX6_find (nI (lb (D l))) σ) fun r10 σ_r10 => (F_xX6_resolve_80 (nI l) (agI D n l) r10 σ_r10))) = F_xX6_resolve_80 (nI l) (agI D n l) (nxI D n l) σ := by
      unfold nxI
      by_cases e : lb (D l) = 0
      · rw [if_pos (by rw [e]; rfl), if_pos e, e7]
      · rw [if_neg (nI_ne0 (by omega) (by omega)), if_neg e, x_find hn hlb h14 hF, bd_is]
    rw [e2]
    unfold F_xX6_resolve_80
    by_cases eB : nxI D n l = -1
    · left
      have hne : lb (D l) ≠ 0 := by
        intro z
        unfold nxI at eB
        rw [if_pos z] at eB
        exact absurd eB (nI_m1 (by split <;> omega))
      refine ⟨hokA, fun z => ?_, ?_⟩
      · refine z hne ?_
        unfold nxI at eB
        rw [if_neg hne] at eB
        exact eB
      · rw [if_pos eB, if_pos (ib_nI (by omega) (by omega)), nI_clamp (by omega)]
        exact x_failat (h23 hne) σ
    · right
      refine ⟨hokA, ?_, ?_⟩
      · intro hne z
        apply eB
        unfold nxI
        rw [if_neg hne]
        exact z
      · rw [if_neg eB, if_pos (ib_nI (by omega) (by omega)), nI_clamp (by omega), h24]
        unfold vlI
        rw [hnum, if_neg (by decide)]
theorem m_33 {D : Nat → Ln} {n j v p : Nat} (hn : n ≤ 40) {τ : St} (hF : ∀ l, l < n → lc (D l) < 2 ^ 30 ∧ τ.2.2.2 8 l = nL (lc (D l))) (h14 : τ.1 14 = nI n) (h15 : τ.1 15 = nI (ncF D n)) (hj : j < ncF D n) (hv : v < 2 ^ 30) (h12 : τ.2.2.2 12 j = nL v) (h13 : τ.2.1 13 j = nI p) (f : Nat) : F_mX11_program_33 (f + 1) (nI j) τ = if fdX D v n 0 = -1 then some (-1, mF 5 p (sI τ 3 (nI p))) else F_mX11_program_33 f (nI (j + 1)) τ := by
  have hnc := nc_le D n
  obtain ⟨R, hR⟩ : ∃ R, R = F_mX11_program_33 f (nI (j + 1)) τ := ⟨_, rfl⟩
  rw [← hR]
  unfold F_mX11_program_33
  rw [h15, if_neg (nI_ge hj (by omega)), if_pos (ib_nI (by omega) (by omega)), nI_clamp (by omega), h12, h14, m_find hn hv hF, bd_is, nI_1, ← hR, h13]
  by_cases e : fdX D v n 0 = -1
  · rw [if_pos e, if_pos e]
    unfold F_mX11_fails
    rw [bd_is]
    rfl
  · rw [if_neg e, if_neg e]
theorem r_all {D : Nat → Ln} {n : Nat} {σ τ : St} (hP : PR D n σ τ) (hx14 : σ.1 14 = nI n) (hm14 : τ.1 14 = nI n) : ∀ (d l fx fm : Nat) (σl : St), l + d = n → d < fx → 2 * d < fm → fr1 [] [16] σ σl → (∀ i, i < l → σl.2.1 16 i = vlI D n i) → (∀ i, l ≤ i → σl.2.1 16 i = σ.2.1 16 i) →
    (∃ (s : Nat) (σ' τ' : St), F_xX6_read_49 fx (nI l) σl = some (0, σ') ∧ F_mX11_program_33 fm (nI (ncF D l)) τ = some (-1, τ') ∧ fr1 [5, 6] [16] σ σ' ∧ fr1 [3, 6, 7] [] τ τ' ∧ σ'.1 5 = 5 ∧ σ'.1 6 = nI s ∧ τ'.1 6 = 5 ∧ τ'.1 7 = nI s) ∨ ∃ (σ' : St) (f' : Nat), F_xX6_read_49 fx (nI l) σl = some (1, σ') ∧ F_mX11_program_33 fm (nI (ncF D l)) τ = F_mX11_program_33 (f' + 1) (nI (ncF D n)) τ ∧ fr1 [] [16] σ σ' ∧ ∀ i, i < n → σ'.2.1 16 i = vlI D n i := by
  have hn := hP.2.1
  have hFm : ∀ l, l < n → lc (D l) < 2 ^ 30 ∧ τ.2.2.2 8 l = nL (lc (D l)) := fun l hl => ⟨(hP.2.2 l hl).1.2.1, (hP.2.2 l hl).2.2.1⟩
  intro d
  induction d with
  | zero =>
    intro l fx fm σl hl hfx hfm hf h1 h2
    match fx, hfx, fm, hfm with
    | fx + 1, _, fm + 1, _ =>
      right
      have hle : l = n := by omega
      refine ⟨σl, fm, ?_, by rw [hle], hf, fun i hi => h1 i (by omega)⟩
      unfold F_xX6_read_49
      rw [(hf.1 14 (List.not_mem_nil)).trans hx14, if_pos (nI_le (by omega) (by omega))]
  | succ d ih =>
    intro l fx fm σl hl hfx hfm hf h1 h2
    have hlt : l < n := by omega
    obtain ⟨ho, hlx, hlm⟩ := hP.2.2 l hlt
    have g : ∀ a, a ≠ 16 → σl.2.1 a = σ.2.1 a := fun a ha => hf.2 a (fun z => ha (List.mem_singleton.mp z))
    have k14 : σl.1 14 = nI n := (hf.1 14 (List.not_mem_nil)).trans hx14
    have hFx : ∀ l, l < n → lc (D l) < 2 ^ 30 ∧ σl.2.1 19 l = nI (lc (D l)) := fun l hl => ⟨(hP.2.2 l hl).1.2.1, by rw [g 19 (by decide)]; exact (hP.2.2 l hl).2.1.1⟩
    have hmo := nc_mono D (show l + 1 ≤ n from hlt)
    obtain ⟨fm, rfl⟩ : ∃ fm', fm = fm' + 2 := ⟨fm - 2, by omega⟩
    match fx, hfx with
    | fx + 1, hfx =>
      unfold F_xX6_read_49
      rw [k14, if_neg (nI_ge hlt (by omega)), if_neg (show ¬ (40 : Int32) ≤ nI l from nI_ge (b := 40) (by omega) (by omega)), if_pos (ib_nI (by omega) (by omega)), nI_clamp (by omega), g 24 (by decide), nI_1]
      cases hnum : ln (D l) with
      | true =>
        have hx := hlx.2.1 hnum
        have hab := ho.2.2.2.2.2.2.2 hnum
        have ena : na (D l) = 0 := if_pos hab.1
        have enb : nbb (D l) = 0 := if_pos hab.2
        have enc : ncF D (l + 1) = ncF D l := by
          show ncF D l + (na (D l) + nbb (D l)) = _
          omega
        rw [hx.1, if_pos rfl, ← enc]
        refine ih (l + 1) fx (fm + 2) σl (by omega) (by omega) (by omega) hf (fun i hi => ?_) (fun i hi => h2 i (by omega))
        by_cases q : i = l
        · rw [q, h2 l (Nat.le_refl _), hx.2]
          unfold vlI
          rw [hnum, if_pos rfl]
        · exact h1 i (by omega)
      | false =>
        have hx := hlx.2.2 hnum
        have hm := hlm.2.2.1 hnum
        rw [hx.1, if_neg (nI_m1 (by have := ho.2.2.1; omega))]
        have hres := x_resolve (D := D) hn hlt k14 hFx ho hnum (by rw [g 24 (by decide)]; exact hx.1) (by rw [g 20 (by decide)]; exact hx.2.1) (by rw [g 21 (by decide)]; exact hx.2.2.1) (fun z => by rw [g 22 (by decide)]; exact hx.2.2.2.1 z) (fun z => by rw [g 23 (by decide)]; exact hx.2.2.2.2 z)
        -- the reference's steps
        have stA : ∀ f, (okA D n l → F_mX11_program_33 (f + 1) (nI (ncF D l)) τ = F_mX11_program_33 (f + 1 - na (D l)) (nI (ncF D l + na (D l))) τ) ∧ (¬ okA D n l → F_mX11_program_33 (f + 1) (nI (ncF D l)) τ = some (-1, mF 5 (lpa (D l)) (sI τ 3 (nI (lpa (D l)))))) := by
          intro f
          by_cases z : la (D l) = 0
          · have : na (D l) = 0 := if_pos z
            rw [this]
            exact ⟨fun _ => rfl, fun q => absurd (fun y => absurd z y) q⟩
          · have ena : na (D l) = 1 := if_neg z
            have hnm := hlm.2.2.2.1 z
            have := m_33 (D := D) hn hFm hm14 hP.1 (j := ncF D l) (by
              have e : ncF D (l + 1) = ncF D l + (na (D l) + nbb (D l)) := rfl
              omega) ho.2.2.2.1 hnm.1 hnm.2 f
            rw [ena, this]
            constructor
            · intro q
              rw [if_neg (q z)]
              rfl
            · intro q
              rw [if_pos]
              exact Classical.byContradiction (fun y => q (fun _ => y))
        have stB : ∀ f, (okB D n l → F_mX11_program_33 (f + 1) (nI (ncF D l + na (D l))) τ = F_mX11_program_33 (f + 1 - nbb (D l)) (nI (ncF D (l + 1))) τ) ∧ (¬ okB D n l → F_mX11_program_33 (f + 1) (nI (ncF D l + na (D l))) τ = some (-1, mF 5 (lpb (D l)) (sI τ 3 (nI (lpb (D l)))))) := by
          intro f
          have e : ncF D (l + 1) = ncF D l + na (D l) + nbb (D l) := by
            show ncF D l + (na (D l) + nbb (D l)) = _
            omega
          by_cases z : lb (D l) = 0
          · have : nbb (D l) = 0 := if_pos z
            rw [e, this]
            exact ⟨fun _ => rfl, fun q => absurd (fun y => absurd z y) q⟩
          · have enb : nbb (D l) = 1 := if_neg z
            have hnm := hlm.2.2.2.2 z
            have := m_33 (D := D) hn hFm hm14 hP.1 (j := ncF D l + na (D l)) (by omega) ho.2.2.2.2.1 hnm.1 hnm.2 f
            rw [e, enb, this]
            constructor
            · intro q
              rw [if_neg (q z)]
              rfl
            · intro q
              rw [if_pos]
              exact Classical.byContradiction (fun y => q (fun _ => y))
        have hna := na_le (D l)
        have hnb := nbb_le (D l)
        have fail : ∀ p, F_xX6_resolve (nI l) σl = some (0, xF 5 p σl) → F_mX11_program_33 (fm + 2) (nI (ncF D l)) τ = some (-1, mF 5 p (sI τ 3 (nI p))) → ∃ (s : Nat) (σ' τ' : St), (bd (F_xX6_resolve (nI l) σl) fun r5 σ_r5 => (if r5 = 0 then (some (0, σ_r5)) else (F_xX6_read_49 fx (nI (l + 1)) σ_r5))) = some (0, σ') ∧ F_mX11_program_33 (fm + 2) (nI (ncF D l)) τ = some (-1, τ') ∧ fr1 [5, 6] [16] σ σ' ∧ fr1 [3, 6, 7] [] τ τ' ∧ σ'.1 5 = 5 ∧ σ'.1 6 = nI s ∧ τ'.1 6 = 5 ∧ τ'.1 7 = nI s := by
          intro p e1 e2
          refine ⟨p, xF 5 p σl, mF 5 p (sI τ 3 (nI p)), by rw [e1, bd_is, if_pos rfl], e2, fr1.sI (fr1.sI (hf.wk (by decide) (by decide)) (by decide)) (by decide), ((fr1.rf.sI (by decide)).sI (by decide)).sI (by decide), rfl, rfl, rfl, rfl⟩
        rcases hres with ⟨q1, q2⟩ | ⟨q1, q2, q3⟩ | ⟨q1, q2, q3⟩
        · exact Or.inl (fail _ q2 ((stA (fm + 1)).2 q1))
        · refine Or.inl (fail _ q3 ?_)
          rw [show fm + 2 = fm + 1 + 1 from rfl, (stA (fm + 1)).1 q1]
          obtain ⟨f2, hf2⟩ : ∃ f2, fm + 1 + 1 - na (D l) = f2 + 1 := ⟨fm + 1 - na (D l), by omega⟩
          rw [hf2]
          exact (stB f2).2 q2
        · rw [q3, bd_is, if_neg (show ¬ (1 : Int32) = 0 by decide)]
          have hM3 : F_mX11_program_33 (fm + 2) (nI (ncF D l)) τ = F_mX11_program_33 (fm + 2 - na (D l) - nbb (D l)) (nI (ncF D (l + 1))) τ := by
            rw [show fm + 2 = fm + 1 + 1 from rfl, (stA (fm + 1)).1 q1]
            obtain ⟨f2, hf2⟩ : ∃ f2, fm + 1 + 1 - na (D l) = f2 + 1 := ⟨fm + 1 - na (D l), by omega⟩
            rw [hf2]
            exact (stB f2).1 q2
          rw [hM3]
          have f1 : fr1 [] [16] σ (sA σl 16 (upd (σl.2.1 16) l (vlI D n l))) := hf.sA (by decide)
          refine ih (l + 1) fx (fm + 2 - na (D l) - nbb (D l)) _ (by omega) (by omega) (by omega) f1 (fun i hi => ?_) (fun i hi => ?_)
          · show upd (σl.2.1 16) l (vlI D n l) i = _
            rw [u_is]
            by_cases q : i = l
            · rw [if_pos q, q]
            · rw [if_neg q]; exact h1 i (by omega)
          · show upd (σl.2.1 16) l (vlI D n l) i = _
            rw [u_is, if_neg (by omega)]
            exact h2 i (by omega)

/-! program -/
theorem nI_m2 {a : Nat} (h : a < 2 ^ 31) : ¬ nI a = -2 := fun z => by
  rw [i_eq, nI_toInt h, show (-2 : Int32).toInt = -2 from rfl] at z; omega
theorem m_110 {D : Nat → Ln} {n : Nat} (hn : n ≤ 40) {τ : St} (hP : ∀ l, l < n → LO (D l) ∧ LM (D l) (ncF D l) l τ) : ∀ (d l f : Nat) (τl : St), l + d = n → d < f → τl.1 12 = nI n → (∀ a, a ≠ 6 → τl.2.1 a = τ.2.1 a) → (∀ k, k ≠ 5 → τl.2.2.2 k = τ.2.2.2 k) → (∀ i, i < l → τl.2.1 6 i = vlI D n i) →
    ∃ τ', F_mX11_program_110 f (nI l) τl = (bv (F_mX11_layFirst (sI τ' 13 0)) fun σ_r9 => (some ((σ_r9.1 12), σ_r9))) ∧ τ'.1 = τl.1 ∧ (∀ a, a ≠ 6 → τ'.2.1 a = τ.2.1 a) ∧ ∀ i, i < n → τ'.2.1 6 i = vlI D n i := by
  intro d
  induction d with
  | zero =>
    intro l f τl hl hf h12 hA hB h6
    match f, hf with
    | f + 1, _ =>
      unfold F_mX11_program_110
      rw [h12, if_pos (nI_le (by omega) (by omega))]
      exact ⟨τl, rfl, rfl, hA, fun i hi => h6 i (by omega)⟩
  | succ d ih =>
    intro l f τl hl hf h12 hA hB h6
    match f, hf with
    | f + 1, hf =>
      have hlt : l < n := by omega
      obtain ⟨ho, hlm⟩ := hP l hlt
      have hnc := nc_le D n
      have hmo := nc_mono D (show l + 1 ≤ n from hlt)
      have enc : ncF D (l + 1) = ncF D l + (na (D l) + nbb (D l)) := rfl
      unfold F_mX11_program_110
      rw [h12, if_neg (nI_ge hlt (by omega)), if_pos (ib_nI (by omega) (by omega)), if_pos (ib_nI (by omega) (by omega)), nI_clamp (by omega), hA 10 (by decide), hA 9 (by decide), nI_1]
      -- one line's word put
      have put : ∀ (τx : St) (v : Int32), τx.1 = τl.1 → (∀ a, a ≠ 6 → τx.2.1 a = τ.2.1 a) → (∀ k, k ≠ 5 → τx.2.2.2 k = τ.2.2.2 k) → (∀ i, i < l → τx.2.1 6 i = vlI D n i) → v = vlI D n l → ∃ τ', F_mX11_program_110 f (nI (l + 1)) (sA τx 6 (upd (τx.2.1 6) l v)) = (bv (F_mX11_layFirst (sI τ' 13 0)) fun σ_r9 => (some ((σ_r9.1 12), σ_r9))) ∧ τ'.1 = τl.1 ∧ (∀ a, a ≠ 6 → τ'.2.1 a = τ.2.1 a) ∧ ∀ i, i < n → τ'.2.1 6 i = vlI D n i := by
        intro τx v e1 e2 e3 e4 e5
        obtain ⟨τ', a1, a2, a3, a4⟩ := ih (l + 1) f (sA τx 6 (upd (τx.2.1 6) l v)) (by omega) (by omega) (by
          show τx.1 12 = _
          rw [e1]; exact h12) (fun a ha => by rw [rA_A, if_neg ha]; exact e2 a ha) e3 (fun i hi => by
          show upd (τx.2.1 6) l v i = _
          rw [u_is]
          by_cases q : i = l
          · rw [if_pos q, q]; exact e5
          · rw [if_neg q]; exact e4 i (by omega))
        exact ⟨τ', a1, a2.trans e1, a3, a4⟩
      cases hnum : ln (D l) with
      | true =>
        have hm := hlm.2.1 hnum
        rw [hm.2, if_pos rfl, hm.1]
        obtain ⟨τ', a1, a2, a3, a4⟩ := ih (l + 1) f (sB (sA τl 6 (upd (τl.2.1 6) l (lv (D l)))) 5 (vp_updL (τl.2.2.2 5) l (τl.2.2.2 8 l))) (by omega) (by omega) h12 (fun a ha => by
          show (sA τl 6 (upd (τl.2.1 6) l (lv (D l)))).2.1 a = _
          rw [rA_A, if_neg ha]; exact hA a ha) (fun k hk => by
          rw [rB_B, if_neg hk]; exact hB k hk) (fun i hi => by
          show upd (τl.2.1 6) l (lv (D l)) i = _
          rw [u_is]
          by_cases q : i = l
          · rw [if_pos q, q]
            unfold vlI
            rw [hnum, if_pos rfl]
          · rw [if_neg q]; exact h6 i (by omega))
        exact ⟨τ', a1, a2, a3, a4⟩
      | false =>
        have hm := hlm.2.2.1 hnum
        obtain ⟨τ5, hτ5⟩ : ∃ τ5, τ5 = sB τl 5 (vp_updL (τl.2.2.2 5) l (τl.2.2.2 8 l)) := ⟨_, rfl⟩
        have k1 : τ5.1 = τl.1 := by rw [hτ5]; rfl
        have k2 : ∀ a, a ≠ 6 → τ5.2.1 a = τ.2.1 a := fun a ha => by rw [hτ5]; exact hA a ha
        have k3 : ∀ k, k ≠ 5 → τ5.2.2.2 k = τ.2.2.2 k := fun k hk => by rw [hτ5, rB_B, if_neg hk]; exact hB k hk
        have k4 : ∀ i, i < l → τ5.2.1 6 i = vlI D n i := fun i hi => by rw [hτ5]; exact h6 i hi
        have k12 : τ5.1 12 = nI n := by rw [k1]; exact h12
        have hF5 : ∀ l, l < n → lc (D l) < 2 ^ 30 ∧ τ5.2.2.2 8 l = nL (lc (D l)) := fun l hl => ⟨(hP l hl).1.2.1, by rw [k3 8 (by decide)]; exact (hP l hl).2.1⟩
        rw [← hτ5]
        have step : (if τ.2.1 10 l = -2 then F_mX11_program_110 f (nI (l + 1)) (sB (sA τl 6 (upd (τl.2.1 6) l (τ.2.1 9 l))) 5 (vp_updL (τl.2.2.2 5) l (τl.2.2.2 8 l))) else (if τ.2.1 10 l = -1 then F_mX11_program_189 (F_mX11_program_110 f) (nI l) 0 τ5 else (if ib (τ.2.1 10 l) 82 = true then (bd (F_mX11_find (τl.2.2.2 12 (τ.2.1 10 l).toNatClampNeg) (nI n) τ5) fun r15 σ_r15 => (F_mX11_program_189 (F_mX11_program_110 f) (nI l) r15 σ_r15)) else none))) = F_mX11_program_189 (F_mX11_program_110 f) (nI l) (agI D n l) τ5 := by
          unfold agI
          rw [hm.2.1]
          by_cases z : la (D l) = 0
          · rw [if_pos z, if_pos z, if_neg (by decide), if_pos rfl]
          · have ena : na (D l) = 1 := if_neg z
            rw [if_neg z, if_neg z, if_neg (nI_m2 (by omega)), if_neg (nI_m1 (by omega)), if_pos (ib_nI (by omega) (by omega)), nI_clamp (by omega), hB 12 (by decide), (hlm.2.2.2.1 z).1, m_find hn ho.2.2.2.1 hF5, bd_is]
        rw [step]
        unfold F_mX11_program_189
        rw [if_pos (ib_nI (by omega) (by omega)), nI_clamp (by omega), k2 11 (by decide), hm.2.2, k12, nI_1]
        have step2 : (if (if lb (D l) = 0 then (-1 : Int32) else nI (ncF D l + na (D l))) = -1 then (if nI n ≤ nI (l + 1) then F_mX11_program_239 (F_mX11_program_110 f) (nI l) (agI D n l) (nI l) τ5 else F_mX11_program_239 (F_mX11_program_110 f) (nI l) (agI D n l) (nI (l + 1)) τ5) else (if ib (if lb (D l) = 0 then (-1 : Int32) else nI (ncF D l + na (D l))) 82 = true then (bd (F_mX11_find (τ5.2.2.2 12 (if lb (D l) = 0 then (-1 : Int32) else nI (ncF D l + na (D l))).toNatClampNeg) (nI n) τ5) fun r7 σ_r7 => (F_mX11_program_239 (F_mX11_program_110 f) (nI l) (agI D n l) r7 σ_r7)) else none)) = F_mX11_program_239 (F_mX11_program_110 f) (nI l) (agI D n l) (nxI D n l) τ5 := by
          unfold nxI
          by_cases z : lb (D l) = 0
          · rw [if_pos z, if_pos z, if_pos rfl]
            by_cases y : n - 1 < l + 1
            · rw [if_pos (nI_le (by omega) (by omega)), if_pos y, show n - 1 = l by omega]
            · rw [if_neg (nI_ge (by omega) (by omega)), if_neg y]
          · have enb : nbb (D l) = 1 := if_neg z
            rw [if_neg z, if_neg z, if_neg (nI_m1 (by omega)), if_pos (ib_nI (by omega) (by omega)), nI_clamp (by omega), k3 12 (by decide), (hlm.2.2.2.2 z).1, m_find hn ho.2.2.2.2.1 hF5, bd_is]
        rw [step2]
        unfold F_mX11_program_239
        rw [if_pos (ib_nI (by omega) (by omega)), if_pos (ib_nI (by omega) (by omega)), nI_clamp (by omega), k2 9 (by decide), hm.1, nI_1]
        refine put τ5 _ k1 k2 k3 k4 ?_
        unfold vlI
        rw [hnum, if_neg (by decide), Int32.mul_comm 10000, Int32.mul_comm 100]
def qP (q : Ab) (n : Nat) (val : Nat → Int32) : Ab := aG (qD q (q.1 1) (q.1 2) n 0 (q.2.1 0) (q.2.1 1)) 1 val
theorem qP_ok {q : Ab} (hq : OKq q) {n : Nat} (hn : n ≤ 40) (hcn : n ≤ nsp (q.2.1 1) (q.1 2)) (val : Nat → Int32) : OKq (qP q n val) := by
  refine ⟨Nat.zero_le _, hq.2.1, ⟨hn, hcn, ?_⟩, fsp_ok hq.2.1 hcn, fun s _ => Or.inl rfl, fun k _ => ⟨Or.inl rfl, fun z => absurd (show (0 : Int32) = 1 from z) (by decide)⟩, hq.2.2.2.2.2.2.1, Or.inl rfl, fun _ => rfl, fun z => absurd (show (0 : Int32) = 1 from z) (by decide)⟩
  by_cases z : n = 0
  · exact Or.inr ⟨z, rfl⟩
  · exact Or.inl (show 0 < n by omega)
theorem AX_qP {q : Ab} {n : Nat} {val : Nat → Int32} {σ σ' : St} (h : AX q σ) (hf : fr1 [0, 1, 2, 3, 4, 5, 6, 11, 12, 14, 15, 17, 23, 30] [11, 16, 19, 20, 21, 22, 23, 24, 26, 27, 28, 29, 30, 36] σ σ') (h0 : σ'.1 0 = 0) (h5 : σ'.1 5 = 0) (h6 : σ'.1 6 = -1) (h11 : σ'.1 11 = nI n) (h12 : σ'.1 12 = 0) (hv : ∀ i, i < n → σ'.2.1 11 i = val i) (hX : XL (q.1 1) (q.2.1 0) n (fsp (q.1 1) (q.1 2) (q.2.1 1)) (fun _ => 0) σ') (h36 : ∀ k, k < 4 → σ'.2.1 36 k = 0) (h23 : σ'.1 23 = 0) (h30 : σ'.1 30 = 0) : AX (qP q n val) σ' := by
  have i : ∀ k, k ∉ [0, 1, 2, 3, 4, 5, 6, 11, 12, 14, 15, 17, 23, 30] → σ'.1 k = σ.1 k := fun k hk => hf.1 k hk
  have a : ∀ k, k ∉ [11, 16, 19, 20, 21, 22, 23, 24, 26, 27, 28, 29, 30, 36] → σ'.2.1 k = σ.2.1 k := fun k hk => hf.2 k hk
  obtain ⟨h1, h2, h3, -, -, -, h7⟩ := h
  refine ⟨⟨h0, ?_, h5, h6⟩, ?_, ⟨h11, h12, hv⟩, hX, ⟨h36, fun z => absurd (show (0 : Int32) = 1 from z) (by decide), fun z => absurd (show (0 : Int32) = 1 from z) (by decide), fun z => absurd (show (0 : Int32) = 1 from z) (by decide), fun z => absurd (show (0 : Int32) = 1 from z) (by decide)⟩, ⟨h23, h30, fun z => absurd (show (0 : Int32) = 1 from z) (by decide)⟩, ?_⟩
  · rw [a 2 (by decide)]; exact h1.2.1
  · exact h2.fr hf (by decide) (by decide) (by decide) (by decide)
  · show XJ (q.1 5) (q.2.1 3) (q.2.1 4) σ'
    unfold XJ at h7 ⊢
    rw [i 32 (by decide), a 57 (by decide), a 58 (by decide), a 59 (by decide)]
    exact h7
theorem AM_qP {q : Ab} {n : Nat} {val : Nat → Int32} {τ τ' : St} (h : AM q τ) (hf : fr1 [0, 1, 2, 3, 4, 5, 6, 7, 12, 13, 14, 15, 23] [4, 6, 7, 9, 10, 11, 13, 27] τ τ') (h0 : τ'.1 0 = 0) (h6 : τ'.1 6 = 0) (h7 : τ'.1 7 = -1) (h12 : τ'.1 12 = nI n) (h13 : τ'.1 13 = 0) (hv : ∀ i, i < n → τ'.2.1 6 i = val i) (hL : ML n (fsp (q.1 1) (q.1 2) (q.2.1 1)) (fun _ => 0) τ') (h27 : ∀ k, k < 4 → τ'.2.1 27 k = 0) (h23 : τ'.1 23 = 0) : AM (qP q n val) τ' := by
  have i : ∀ k, k ∉ [0, 1, 2, 3, 4, 5, 6, 7, 12, 13, 14, 15, 23] → τ'.1 k = τ.1 k := fun k hk => hf.1 k hk
  have a : ∀ k, k ∉ [4, 6, 7, 9, 10, 11, 13, 27] → τ'.2.1 k = τ.2.1 k := fun k hk => hf.2 k hk
  obtain ⟨h1, h2, h3, -, -, -, h7'⟩ := h
  refine ⟨⟨h0, ?_, h6, h7⟩, ?_, ⟨h12, h13, hv⟩, hL, fun k hk => ⟨h27 k hk, fun z => absurd (show (0 : Int32) = 1 from z) (by decide)⟩, ⟨h23, fun z => absurd (show (0 : Int32) = 1 from z) (by decide)⟩, ?_⟩
  · rw [a 1 (by decide)]; exact h1.2.1
  · exact h2.fr hf (by decide) (by decide) (by decide) (by decide)
  · show MJ (q.1 5) (q.2.1 3) (q.2.1 4) τ'
    unfold MJ at h7' ⊢
    rw [i 25 (by decide), a 31 (by decide), a 32 (by decide)]
    exact h7'
theorem api_program : API2 F_xX10_program F_mX11_program := by
  intro q σ τ hq hX hM
  have hL := hq.1
  have hd := hq.2.1
  obtain ⟨σ1, τ1, a1, a2, a3, a4, a5, a6, a7, a8, a9, a10⟩ := b_begin hL hX.1 hM.1
  obtain ⟨σ0, hσ0⟩ : ∃ σ0, σ0 = sI (sI σ1 14 0) 15 0 := ⟨_, rfl⟩
  obtain ⟨τ0, hτ0⟩ : ∃ τ0, τ0 = sI (sI τ1 14 0) 15 0 := ⟨_, rfl⟩
  have eX : F_xX10_program σ = (bd (F_xX6_read_16 FU 0 σ0) fun r1 σ_r1 => (if r1 = 0 then (some ((-1), (sI σ_r1 0 0))) else (bd (F_xX1_countSpots (sI σ_r1 0 0)) fun r3 σ_r3 => (if (σ_r1.1 14) ≤ r3 then (bv (F_xX5_copyFrom σ_r3) fun σ_r5 => (bv (F_xX10_startAfresh σ_r5) fun σ_r6 => (some ((σ_r6.1 11), σ_r6)))) else (some ((-3), σ_r3)))))) := by
    unfold F_xX10_program F_xX6_read F_xX5_clearv2
    rw [a1, bv_is, bv_is, ← hσ0]
  have eM : F_mX11_program τ = F_mX11_program_14 FU τ0 := by
    unfold F_mX11_program
    rw [a2, bv_is, ← hτ0]
  have fX0 : fr1 [0, 1, 2, 3, 4, 5, 6, 9, 10, 14, 15] [8, 9, 16, 19, 20, 21, 22, 23, 24] σ σ0 := by rw [hσ0]; exact ((a4.wk (by decide) (by decide)).sI (by decide)).sI (by decide)
  have fM0 : fr1 [0, 1, 2, 3, 4, 5, 6, 7, 10, 11, 14, 15] [2, 3, 5, 8, 9, 10, 11, 12, 13] τ τ0 := by rw [hτ0]; exact ((a5.1.wk (by decide) (by decide)).sI (by decide)).sI (by decide)
  have h23 : ∀ k, k < 4 → τ0.2.1 2 k = τ.2.1 2 k ∧ τ0.2.1 3 k = τ.2.1 3 k := fun k hk => by
    rw [hτ0]
    show τ1.2.1 2 k = _ ∧ τ1.2.1 3 k = _
    rw [a5.1.2 2 (List.not_mem_nil), a5.1.2 3 (List.not_mem_nil)]
    exact ⟨rfl, rfl⟩
  have g0 : τ0.1 0 = 0 := by rw [hτ0]; exact a10
  have hR : RP (q.2.2.2 0) (q.1 0) (tokF (q.2.2.2 0) (q.1 0) 0) σ0 τ0 := by rw [hσ0, hτ0]; exact ⟨a3.1, a3.2.1, a3.2.2.1, a3.2.2.2.1, a3.2.2.2.2⟩
  have hP0 : PR (fun _ => (0, true, 0, 0, 0, 0, 0, 0)) 0 σ0 τ0 := ⟨by rw [hτ0]; rfl, by omega, fun l hl => by cases hl⟩
  rw [eX, eM]
  rcases l_lines hL 40 FU FU 0 _ _ σ0 τ0 rfl (by rw [FU_is]; omega) (by rw [FU_is]; omega) hR hP0 (by rw [hσ0]; rfl) (by rw [hτ0]; rfl) (fr1.rf : GX σ0 σ0) (fr1.rf : GM τ0 τ0) with ⟨k, s, σ2, τ2, e1, e2, e3, e4, e5, e6, e7, e8⟩ | ⟨n, D, σ2, τ2, e1, e2, e3, e4, e5, e6, e7⟩
  · refine ⟨-1, qF q k s, sI σ2 0 0, τ2, ?_, e2, qF_ok hq k s, ?_, ?_⟩
    · rw [show F_xX6_read_16 FU 0 σ0 = _ from e1, bd_is, if_pos rfl]
    · exact AX_fail hX (fr1.sI (fX0.tr (fr1.wk e3 (by decide) (by decide))) (by decide)) rfl e5 e6
    · refine AM_fail hq hM (fM0.tr (fr1.wk e4 (by decide) (by decide))) (fun k hk => ?_) ((e4.1 0 (by decide)).trans g0) e7 e8
      rw [e4.2 2 (by decide), e4.2 3 (by decide)]
      exact h23 k hk
  · rw [show F_xX6_read_16 FU 0 σ0 = _ from e1, e2]
    have hn := e3.2.1
    have hnc := nc_le D n
    rcases r_all e3 e4 e5 n 0 FU FU σ2 (by omega) (by rw [FU_is]; omega) (by rw [FU_is]; omega) fr1.rf (fun i hi => by cases hi) (fun i _ => rfl) with ⟨s, σ3, τ3, f1, f2, f3, f4, f5, f6, f7, f8⟩ | ⟨σ3, f', f1, f2, f3, f4⟩
    · refine ⟨-1, qF q 5 (nI s), sI σ3 0 0, τ3, ?_, f2, qF_ok hq 5 (nI s), ?_, ?_⟩
      · rw [show F_xX6_read_49 FU 0 σ2 = _ from f1, bd_is, if_pos rfl]
      · exact AX_fail hX (fr1.sI ((fX0.tr (fr1.wk e6 (by decide) (by decide))).tr (f3.wk (by decide) (by decide))) (by decide)) rfl f5 f6
      · refine AM_fail hq hM ((fM0.tr (fr1.wk e7 (by decide) (by decide))).tr (f4.wk (by decide) (by decide))) (fun k hk => ?_) ((f4.1 0 (by decide)).trans ((e7.1 0 (by decide)).trans g0)) f7 f8
        rw [f4.2 2 (List.not_mem_nil), f4.2 3 (List.not_mem_nil), e7.2 2 (by decide), e7.2 3 (by decide)]
        exact h23 k hk
    · have fX3 : fr1 [0, 1, 2, 3, 4, 5, 6, 9, 10, 14, 15] [8, 9, 16, 19, 20, 21, 22, 23, 24] σ (sI σ3 0 0) := fr1.sI ((fX0.tr (fr1.wk e6 (by decide) (by decide))).tr (f3.wk (by decide) (by decide))) (by decide)
      have fM2 : fr1 [0, 1, 2, 3, 4, 5, 6, 7, 10, 11, 14, 15] [2, 3, 5, 8, 9, 10, 11, 12, 13] τ τ2 := fM0.tr (fr1.wk e7 (by decide) (by decide))
      have hD3 : XD (q.1 1) (q.1 2) (q.2.1 0) (q.2.1 1) (sI σ3 0 0) := hX.2.1.fr fX3 (by decide) (by decide) (by decide) (by decide)
      have t23 : ∀ k, k < 4 → τ2.2.1 2 k = τ.2.1 2 k ∧ τ2.2.1 3 k = τ.2.1 3 k := fun k hk => by
        rw [e7.2 2 (by decide), e7.2 3 (by decide)]
        exact h23 k hk
      have hMD2 : MD (q.1 1) (q.1 2) (q.2.1 0) (q.2.1 1) τ2 := ⟨(fM2.1 8 (by decide)).trans hM.2.1.1, (fM2.1 9 (by decide)).trans hM.2.1.2.1, fun k hk => by
        have ht := hd.2.2.2.1
        rw [(t23 k (by omega)).1, (t23 k (by omega)).2]
        exact hM.2.1.2.2 k hk⟩
      have x5 : σ3.1 5 = 0 := (f3.1 5 (List.not_mem_nil)).trans ((e6.1 5 (by decide)).trans (by rw [hσ0]; exact a6))
      have x6 : σ3.1 6 = -1 := (f3.1 6 (List.not_mem_nil)).trans ((e6.1 6 (by decide)).trans (by rw [hσ0]; exact a7))
      have y6 : τ2.1 6 = 0 := (e7.1 6 (by decide)).trans (by rw [hτ0]; exact a8)
      have y7 : τ2.1 7 = -1 := (e7.1 7 (by decide)).trans (by rw [hτ0]; exact a9)
      have y0 : τ2.1 0 = 0 := (e7.1 0 (by decide)).trans g0
      have x14 : σ3.1 14 = nI n := (f3.1 14 (List.not_mem_nil)).trans e4
      have hns : nsp (q.2.1 1) (q.1 2) ≤ 128 := by
        have := nsp_le hd (q.1 2) (Nat.le_refl _)
        have := dw_lt hd
        omega
      have hM33 : F_mX11_program_33 FU 0 τ2 = (bd (F_mX11_spots τ2) fun r17 σ_r17 => (if (τ2.1 14) ≤ r17 then (F_mX11_program_110 FU 0 (sI σ_r17 12 (σ_r17.1 14))) else (some ((-3), σ_r17)))) := by
        rw [show F_mX11_program_33 FU 0 τ2 = _ from f2]
        unfold F_mX11_program_33
        rw [e3.1, if_pos (nI_le (Nat.le_refl _) (by omega))]
      rw [show F_xX6_read_49 FU 0 σ2 = _ from f1, bd_is, if_neg (show ¬ (1 : Int32) = 0 by decide), x_spots hd hD3, bd_is, x14, hM33, m_spots hd hMD2, bd_is, e5]
      by_cases hcn : n ≤ nsp (q.2.1 1) (q.1 2)
      · rw [if_pos (nI_le hcn (by omega)), if_pos (nI_le hcn (by omega))]
        -- the class
        obtain ⟨σ4, hσ4⟩ : ∃ σ4, σ4 = sA (sI (sI (sI σ3 0 0) 11 (nI n)) 12 0) 11 (va_cpy (σ3.2.1 16) (σ3.2.1 11) 0 0 40) := ⟨_, rfl⟩
        have eC : F_xX5_copyFrom (sI σ3 0 0) = some σ4 := by
          unfold F_xX5_copyFrom
          rw [show (sI σ3 0 0).1 14 = nI n from x14, hσ4]
          rfl
        have fX4 : fr1 [0, 1, 2, 3, 4, 5, 6, 11, 12, 14, 15, 17, 23, 30] [11, 16, 19, 20, 21, 22, 23, 24, 26, 27, 28, 29, 30, 36] σ σ4 := by
          have b0 : fr1 [0, 1, 2, 3, 4, 5, 6, 11, 12, 14, 15, 17, 23, 30] [11, 16, 19, 20, 21, 22, 23, 24, 26, 27, 28, 29, 30, 36] σ σ0 := by rw [hσ0]; exact ((a4.wk (by decide) (by decide)).sI (by decide)).sI (by decide)
          rw [hσ4]
          exact (((((b0.tr (fr1.wk e6 (by decide) (by decide))).tr (f3.wk (by decide) (by decide))).sI (by decide)).sI (by decide)).sI (by decide)).sA (by decide)
        have hD4 : XD (q.1 1) (q.1 2) (q.2.1 0) (q.2.1 1) σ4 := hX.2.1.fr fX4 (by decide) (by decide) (by decide) (by decide)
        have z11 : σ4.1 11 = nI n := by rw [hσ4]; rfl
        obtain ⟨σ5, n1, n2, n3, n4, n5, n6⟩ := x_afresh hd hn hcn hD4 z11
        -- the reference
        obtain ⟨τ3, m1, m2, m3, m4⟩ := m_110 hn (τ := τ2) (fun l hl => ⟨(e3.2.2 l hl).1, (e3.2.2 l hl).2.2⟩) n 0 FU (sI τ2 12 (nI n)) (by omega) (by rw [FU_is]; omega) rfl (fun a _ => rfl) (fun k _ => rfl) (fun i hi => by cases hi)
        have w12 : (sI τ3 13 0).1 12 = nI n := by
          show τ3.1 12 = _
          rw [m2]; rfl
        have fM4 : fr1 [0, 1, 2, 3, 4, 5, 6, 7, 12, 13, 14, 15, 23] [4, 6, 7, 9, 10, 11, 13, 27] τ (sI τ3 13 0) := by
          have b0 : fr1 [0, 1, 2, 3, 4, 5, 6, 7, 12, 13, 14, 15, 23] [4, 6, 7, 9, 10, 11, 13, 27] τ τ0 := by rw [hτ0]; exact ((a5.1.wk (by decide) (by decide)).sI (by decide)).sI (by decide)
          have b1' : fr1 [0, 1, 2, 3, 4, 5, 6, 7, 12, 13, 14, 15, 23] [4, 6, 7, 9, 10, 11, 13, 27] τ (sI τ2 12 (nI n)) := (b0.tr (fr1.wk e7 (by decide) (by decide))).sI (by decide)
          refine fr1.sI (⟨fun k hk => ?_, fun a ha => ?_⟩ : fr1 [0, 1, 2, 3, 4, 5, 6, 7, 12, 13, 14, 15, 23] [4, 6, 7, 9, 10, 11, 13, 27] τ τ3) (by decide)
          · rw [m2]; exact b1'.1 k hk
          · rw [m3 a (fun z => ha (by rw [z]; decide))]; exact b1'.2 a ha
        have hMD4 : MD (q.1 1) (q.1 2) (q.2.1 0) (q.2.1 1) (sI τ3 13 0) := hM.2.1.fr fM4 (by decide) (by decide) (by decide) (by decide)
        obtain ⟨τ5, o1, o2, o3, o4, o5⟩ := m_layFirst hd hn hcn hMD4 w12
        have i3 : ∀ k, k ≠ 12 → τ3.1 k = τ2.1 k := fun k hk => by
          rw [m2, rI_I, if_neg hk]
        refine ⟨nI n, qP q n (vlI D n), σ5, τ5, ?_, ?_, ?_, ?_, ?_⟩
        · rw [eC, bv_is, n1, bv_is, (n2.1 11 (by decide)).trans z11]
        · rw [show F_mX11_program_110 FU 0 (sI τ2 12 (nI n)) = _ from m1, o1, bv_is, (o2.1 12 (by decide)).trans w12]
        · exact qP_ok hq hn hcn _
        · exact AX_qP hX (fX4.tr (n2.wk (by decide) (by decide))) ((n2.1 0 (by decide)).trans (by rw [hσ4]; rfl)) ((n2.1 5 (by decide)).trans (by rw [hσ4]; exact x5)) ((n2.1 6 (by decide)).trans (by rw [hσ4]; exact x6)) ((n2.1 11 (by decide)).trans z11) ((n2.1 12 (by decide)).trans (by rw [hσ4]; rfl)) (fun i hi => by
            rw [n2.2 11 (by decide), hσ4]
            show va_cpy (σ3.2.1 16) (σ3.2.1 11) 0 0 40 i = _
            rw [sb_cpy0 (by omega)]
            exact f4 i hi) n3 n4 n5 n6
        · exact AM_qP hM (fM4.tr (o2.wk (by decide) (by decide))) ((o2.1 0 (by decide)).trans ((i3 0 (by decide)).trans y0)) ((o2.1 6 (by decide)).trans ((i3 6 (by decide)).trans y6)) ((o2.1 7 (by decide)).trans ((i3 7 (by decide)).trans y7)) ((o2.1 12 (by decide)).trans w12) ((o2.1 13 (by decide)).trans rfl) (fun i hi => by
            rw [o2.2 6 (by decide)]
            exact m4 i hi) o3 o4 o5
      · have hge : ¬ nI n ≤ nI (nsp (q.2.1 1) (q.1 2)) := nI_ge (by omega) (by omega)
        rw [if_neg hge, if_neg hge]
        refine ⟨-3, qF q 0 (-1), sI σ3 0 0, τ2, rfl, rfl, qF_ok hq 0 (-1), AX_fail hX fX3 rfl x5 x6, AM_fail hq hM fM2 t23 y0 y6 y7⟩

/-! what holds at the law's entry: classes, links, texts -/
theorem st_arr {s : State} {args : Array Value} {ty : FieldType} (h : (Cond.arrayClass ty).before args s = true) (hr : ∀ cA, s.vm.findClass ("[" ++ ty.toString) = some cA → va_RA s cA ty) : ∃ cA, ArrOfT s cA ty ∧ va_RA s cA ty := by
  obtain ⟨c, k, comp, h1, h2, h3⟩ := Cond.arrayClass_spec h
  exact ⟨c, fun n z => ⟨(fun k h => by cases h), k, h2, comp, h3⟩, hr c h1⟩
theorem st_aoa : Cond.arrayOver (.array .int) ∈ lw_tbl := tin_1 _ (by decide +kernel)
set_option maxHeartbeats 4000000 in
theorem st_K {b : Nat} {s : State} (hts : ∀ w ∈ lw_tbl, w.before #[Value.ref b] s = true) : ∃ (D : va_G) (C : Nat → ClassId), va_K D vwCl (tyL C) s := by
  obtain ⟨k0, h0⟩ := st_arr (ty := .byte) (hts _ (wsL_law_in _ kw_56)) (fun _ h => h)
  obtain ⟨k1, h1⟩ := st_arr (ty := .int) (hts _ (wsL_law_in _ kw_63)) (fun _ h => h)
  obtain ⟨k2, h2⟩ := st_arr (ty := .boolean) (hts _ (wsL_law_in _ kw_103)) (fun _ h => h)
  obtain ⟨k3, h3⟩ := st_arr (ty := .long) (hts _ (wsL_law_in _ kw_157)) (fun _ h => h)
  obtain ⟨comp, k4, kk, g1, g2, g3, g4⟩ := Cond.arrayOver_specA (hts _ st_aoa)
  have h : ∀ k : Nat, ∃ x : ClassId × (Nat → Nat), ∀ q : vw_C, vwCl[k]? = some q → u_Kn s q.1 q.2.1 q.2.2 x.1 x.2 := by
    intro k
    match k with
    | 0 =>
      obtain ⟨c, i, h⟩ := u_known (C := RX0) (T := TX0) (N := 8) (n := 8) hts inX0 (hts _ (wsL_law_in _ kw_38))
      exact ⟨(c, i), fun q hq => by cases hq; exact h⟩
    | 1 =>
      obtain ⟨c, i, h⟩ := u_known (C := RX1) (T := TX1) (N := 4) (n := 4) hts inX1 (hts _ (wsL_law_in _ kw_18))
      exact ⟨(c, i), fun q hq => by cases hq; exact h⟩
    | 2 =>
      obtain ⟨c, i, h⟩ := u_known (C := RX2) (T := TX2) (N := 2) (n := 2) hts inX2 (hts _ (wsL_law_in _ kw_22))
      exact ⟨(c, i), fun q hq => by cases hq; exact h⟩
    | 3 =>
      obtain ⟨c, i, h⟩ := u_known (C := RX3) (T := TX3) (N := 9) (n := 9) hts inX3 (hts _ (wsL_law_in _ kw_34))
      exact ⟨(c, i), fun q hq => by cases hq; exact h⟩
    | 4 =>
      obtain ⟨c, i, h⟩ := u_known (C := RX4) (T := TX4) (N := 4) (n := 4) hts inX4 (hts _ (wsL_law_in _ kw_50))
      exact ⟨(c, i), fun q hq => by cases hq; exact h⟩
    | 5 =>
      obtain ⟨c, i, h⟩ := u_known (C := RX5) (T := TX5) (N := 6) (n := 6) hts inX5 (hts _ (wsL_law_in _ kw_26))
      exact ⟨(c, i), fun q hq => by cases hq; exact h⟩
    | 6 =>
      obtain ⟨c, i, h⟩ := u_known (C := RX6) (T := TX6) (N := 8) (n := 8) hts inX6 (hts _ (wsL_law_in _ kw_30))
      exact ⟨(c, i), fun q hq => by cases hq; exact h⟩
    | 7 =>
      obtain ⟨c, i, h⟩ := u_known (C := RX7) (T := TX7) (N := 18) (n := 18) hts inX7 (hts _ (wsL_law_in _ kw_42))
      exact ⟨(c, i), fun q hq => by cases hq; exact h⟩
    | 8 =>
      obtain ⟨c, i, h⟩ := u_known (C := RX8) (T := TX8) (N := 7) (n := 7) hts inX8 (hts _ (wsL_law_in _ kw_46))
      exact ⟨(c, i), fun q hq => by cases hq; exact h⟩
    | 9 =>
      obtain ⟨c, i, h⟩ := u_known (C := RX9) (T := TX9) (N := 8) (n := 8) hts inX9 (hts _ (wsL_law_in _ kw_14))
      exact ⟨(c, i), fun q hq => by cases hq; exact h⟩
    | 10 =>
      obtain ⟨c, i, h⟩ := u_known (C := RX10) (T := TX10) (N := 10) (n := 10) hts inX10 (hts _ (wsL_law_in _ kw_1))
      exact ⟨(c, i), fun q hq => by cases hq; exact h⟩
    | 11 =>
      obtain ⟨c, i, h⟩ := u_known (C := RX11) (T := TX11) (N := 59) (n := 59) hts inX11 (hts _ (wsL_law_in _ kw_4))
      exact ⟨(c, i), fun q hq => by cases hq; exact h⟩
    | k + 12 => exact ⟨(k0, fun _ => 0), fun q hq => by simp [vwCl] at hq⟩
  obtain ⟨f, hf⟩ := Classical.axiomOfChoice h
  refine ⟨(fun k => (f k).1, fun k => (f k).2), fun k => List.getD [k0, k1, k2, k3, k4] k k4, fun k q hq => hf k q hq, fun k q hq => ?_⟩
  match k, hq with
  | 0, hq => cases hq; exact h0
  | 1, hq => cases hq; exact h1
  | 2, hq => cases hq; exact h2
  | 3, hq => cases hq; exact h3
  | 4, hq => cases hq; exact ⟨fun n z => ⟨(fun k h => by cases h), kk, g2, comp, g3⟩, g4⟩
  | k + 5, hq => simp at hq
theorem st_n0 : Cond.methodLinkNest RX10 11 yX9_init RX10 ∈ lw_tbl := tin_1 _ (by decide +kernel)
theorem st_n1 : Cond.methodLinkNest RX10 34 yX5_init RX10 ∈ lw_tbl := tin_1 _ (by decide +kernel)
theorem st_n2 : Cond.methodLinkNest RX6 11 yX5_init RX10 ∈ lw_tbl := tin_1 _ (by decide +kernel)
theorem st_n3 : Cond.methodLinkNest RX10 57 yX0_init RX10 ∈ lw_tbl := tin_1 _ (by decide +kernel)
theorem st_n4 : Cond.methodLinkNest RX10 64 yX7_init RX10 ∈ lw_tbl := tin_2 _ (by decide +kernel)
theorem st_n5 : Cond.methodLinkNest RX10 80 yX4_init RX10 ∈ lw_tbl := tin_2 _ (by decide +kernel)
theorem st_N {b : Nat} {s : State} (hts : ∀ w ∈ lw_tbl, w.before #[Value.ref b] s = true) : NX s := ⟨va_Nw.of rfl (hts _ st_n0), va_Nw.of rfl (hts _ st_n1), va_Nw.of rfl (hts _ st_n2), va_Nw.of rfl (hts _ st_n3), va_Nw.of rfl (hts _ st_n4), va_Nw.of rfl (hts _ st_n5), AOA.same rfl _ #[] (hts _ st_aoa)⟩
/-- the texts, as the statement gives them -/
def nrTm (i : Nat) : Term := .string (sOwn.getD i "") (sIdx.getD i 0)
def nrV (i : Nat) : Term := .field (nrTm i) "java/lang/String" "value" "[B"
def nrE (i j : Nat) : Cond := .eq (.elem (nrV i) (.int (Int32.ofNat j))) (.int ((sByt.getD i []).getD j 0))
def nrD (i j : Nat) : Cond := .not (.eq (nrTm j) (nrTm i))
def nrRow (i : Nat) : List Cond := .exactly (nrTm i) "java/lang/String" :: .eq (.field (nrTm i) "java/lang/String" "coder" "B") (.int 0) :: .arrayOf (nrV i) .byte :: .eq (.length (nrV i)) (.int (Int32.ofNat (sLen.getD i 0))) :: ((List.range (sLen.getD i 0)).map (nrE i) ++ (List.range i).map (nrD i))
/-- every one of the first stands, in this order, in the second -/
def subq : List Cond → List Cond → Bool
  | [], _ => true
  | _ :: _, [] => false
  | a :: as, b :: bs => if a = b then subq as bs else subq (a :: as) bs
theorem subq_mem : ∀ (bs as : List Cond), subq as bs = true → ∀ w ∈ as, w ∈ bs
  | _, [], _, w, hw => absurd hw List.not_mem_nil
  | [], _ :: _, h, w, hw => by simp [subq] at h
  | b :: bs, a :: as, h, w, hw => by
    simp only [subq] at h
    by_cases e : a = b
    · rw [if_pos e] at h
      rcases List.mem_cons.mp hw with rfl | h1
      · rw [e]; exact List.mem_cons_self
      · exact List.mem_cons_of_mem _ (subq_mem bs as h w h1)
    · rw [if_neg e] at h
      exact List.mem_cons_of_mem _ (subq_mem bs (a :: as) h w hw)
set_option maxRecDepth 100000 in
theorem nr_sub : subq ((List.range 17).flatMap nrRow) (flatC (.and given_1 narrow_1)) = true := by decide +kernel
theorem nr_in {i : Nat} (hi : i < 17) {w : Cond} (h : w ∈ nrRow i) : w ∈ flatC (.and given_1 narrow_1) := subq_mem _ _ nr_sub w (List.mem_flatMap.mpr ⟨i, List.mem_range.mpr hi, h⟩)
theorem nr_0 (i : Nat) : Cond.exactly (nrTm i) "java/lang/String" ∈ nrRow i := List.mem_cons_self
theorem nr_1 (i : Nat) : Cond.eq (.field (nrTm i) "java/lang/String" "coder" "B") (.int 0) ∈ nrRow i := List.mem_cons_of_mem _ List.mem_cons_self
theorem nr_2 (i : Nat) : Cond.arrayOf (nrV i) .byte ∈ nrRow i := List.mem_cons_of_mem _ (List.mem_cons_of_mem _ List.mem_cons_self)
theorem nr_3 (i : Nat) : Cond.eq (.length (nrV i)) (.int (Int32.ofNat (sLen.getD i 0))) ∈ nrRow i := List.mem_cons_of_mem _ (List.mem_cons_of_mem _ (List.mem_cons_of_mem _ List.mem_cons_self))
theorem nr_4 {i j : Nat} (h : j < sLen.getD i 0) : nrE i j ∈ nrRow i := List.mem_cons_of_mem _ (List.mem_cons_of_mem _ (List.mem_cons_of_mem _ (List.mem_cons_of_mem _ (List.mem_append_left _ (List.mem_map.mpr ⟨j, List.mem_range.mpr h, rfl⟩)))))
theorem nr_5 {i j : Nat} (h : j < i) : nrD i j ∈ nrRow i := List.mem_cons_of_mem _ (List.mem_cons_of_mem _ (List.mem_cons_of_mem _ (List.mem_cons_of_mem _ (List.mem_append_right _ (List.mem_map.mpr ⟨j, List.mem_range.mpr h, rfl⟩)))))
theorem nr_len : ∀ i, i < 17 → sLen.getD i 0 < 2 ^ 31 := by decide +kernel
set_option maxRecDepth 100000 in
theorem nr_ref : ∀ i, i < 17 → Cond.stringRef (sOwn.getD i "") (sIdx.getD i 0) (sTx.getD i "") ∈ lw_tbl := by decide +kernel
theorem nr_ls1 : Cond.laysStatic "java/lang/String" "COMPACT_STRINGS" "Z" ∈ lw_tbl := tin_3 _ (by decide +kernel)
theorem nr_ls2 : Cond.laysStatic "jdk/internal/util/Preconditions" "SIOOBE_FORMATTER" "Ljava/util/function/BiFunction;" ∈ lw_tbl := tin_3 _ (by decide +kernel)
set_option maxRecDepth 100000 in
theorem nr_in1 : Cond.initialized "java/lang/String" ∈ lw_tbl := by decide +kernel
set_option maxRecDepth 100000 in
theorem nr_in2 : Cond.initialized "jdk/internal/util/Preconditions" ∈ lw_tbl := by decide +kernel
theorem st_Z {b : Nat} {s : State} (hts : ∀ w ∈ lw_tbl, w.before #[Value.ref b] s = true) (hgv : (Jvm.Cond.and given_1 narrow_1).before #[Value.ref b] s = true) : ∃ adK adV : Nat → Nat, Zs adK adV (fun q => s.heap.size ≤ q) s s.heap := by
  have hs := flat_of_before _ hgv
  have hA : ∀ a : Nat, a < s.heap.size → ¬ (fun q => s.heap.size ≤ q) a := fun a h => Nat.not_le.mpr h
  obtain ⟨adK, adV, h1, h2⟩ := vk_Sof (args := #[Value.ref b]) (s := s) (N := 17) (tm := nrTm) (len := sLen) (byt := sByt) (A := fun q => s.heap.size ≤ q) nr_len (fun i hi => hs _ (nr_in hi (nr_0 i))) (fun i hi => hs _ (nr_in hi (nr_1 i))) (fun i hi => hs _ (nr_in hi (nr_2 i))) (fun i hi => hs _ (nr_in hi (nr_3 i))) (fun i hi j hj => hs _ (nr_in hi (nr_4 hj))) (fun i j hi hj hne => by
    rcases Nat.lt_or_gt_of_ne hne with h | h
    · exact Or.inl (hs _ (nr_in hj (nr_5 h)))
    · exact Or.inr (hs _ (nr_in hi (nr_5 h)))) hA
  exact ⟨adK, adV, h1, fun i hi => vk_R.of (hts _ (nr_ref i hi)) (h2 i hi), va_Zof (hts _ nr_ls1) (hts _ nr_in1) (va_eqi (hs _ (by decide +kernel))) hA, va_Zqof (hts _ nr_ls2) (hts _ nr_in2) (hs _ (by decide +kernel)) hA⟩

def strTm (i : Nat) : Term := .string RX5 (strIx i)
def gvL : List Cond := flatC (Jvm.Cond.and given_1 narrow_1)
theorem gv_ex : ∀ i, i < 18 → Cond.exactly (strTm i) "java/lang/String" ∈ gvL := by decide +kernel
theorem gv_co : ∀ i, i < 18 → Cond.eq (.field (strTm i) "java/lang/String" "coder" "B") (.int 0) ∈ gvL := by decide +kernel
theorem gv_ar : ∀ i, i < 18 → Cond.arrayOf (.field (strTm i) "java/lang/String" "value" "[B") .byte ∈ gvL := by decide +kernel
theorem gv_le : ∀ i, i < 18 → Cond.eq (.length (.field (strTm i) "java/lang/String" "value" "[B")) (.int (Int32.ofNat (strLen.getD i 0))) ∈ gvL := by decide +kernel
theorem gv_el : ∀ i, i < 18 → ∀ j, j < strLen.getD i 0 → Cond.eq (.elem (.field (strTm i) "java/lang/String" "value" "[B") (.int (Int32.ofNat j))) (.int ((strByt.getD i []).getD j 0)) ∈ gvL := by decide +kernel
def prN : Cond → Option (Nat × Nat)
  | .not (.eq (.string x i) (.string y j)) => if x = RX5 ∧ y = RX5 then some (i, j) else none
  | _ => none
theorem prN_spec {c : Cond} {i j : Nat} (h : prN c = some (i, j)) : c = Cond.not (Cond.eq (.string RX5 i) (.string RX5 j)) := by
  unfold prN at h
  split at h
  · split at h
    · rename_i hxy
      cases h
      rw [hxy.1, hxy.2]
    · cases h
  · cases h
def gvN : List (Nat × Nat) := ((85, 91) :: (85, 93) :: (91, 93) :: (85, 95) :: (91, 95) :: (93, 95) :: (85, 97) :: (91, 97) :: (93, 97) :: (95, 97) :: (85, 99) :: (91, 99) :: (93, 99) :: (95, 99) :: (97, 99) :: (85, 101) :: (91, 101) :: (93, 101) :: (95, 101) :: (97, 101) :: (99, 101) :: (85, 103) :: (91, 103) :: (93, 103) :: (95, 103) :: (97, 103) :: (99, 103) :: (101, 103) :: (85, 105) :: (91, 105) :: (93, 105) :: (95, 105) :: (97, 105) :: (99, 105) :: (101, 105) :: (103, 105) :: (85, 107) :: (91, 107) :: (93, 107) :: (95, 107) :: (97, 107) :: (99, 107) :: (101, 107) :: (103, 107) :: (105, 107) :: (85, 109) :: (91, 109) :: (93, 109) :: (95, 109) :: (97, 109) :: (99, 109) :: (101, 109) :: (103, 109) :: (105, 109) :: (107, 109) :: (85, 111) :: (91, 111) :: (93, 111) :: (95, 111) :: (97, 111) :: (99, 111) :: (101, 111) :: (103, 111) :: (105, 111) :: (107, 111) :: (109, 111) :: (85, 113) :: (91, 113) :: (93, 113) :: (95, 113) :: (97, 113) :: (99, 113) :: (101, 113) :: (103, 113) :: (105, 113) :: (107, 113) :: (109, 113) :: (111, 113) :: (85, 115) :: (91, 115) :: (93, 115) :: (95, 115) :: (97, 115) :: (99, 115) :: (101, 115) :: (103, 115) :: (105, 115) :: (107, 115) :: (109, 115) :: (111, 115) :: (113, 115) :: (85, 117) :: (91, 117) :: (93, 117) :: (95, 117) :: (97, 117) :: (99, 117) :: (101, 117) :: (103, 117) :: (105, 117) :: (107, 117) :: (109, 117) :: (111, 117) :: (113, 117) :: (115, 117) :: (85, 119) :: (91, 119) :: (93, 119) :: (95, 119) :: (97, 119) :: (99, 119) :: (101, 119) :: (103, 119) :: (105, 119) :: (107, 119) :: (109, 119) :: (111, 119) :: (113, 119) :: (115, 119) :: (117, 119) :: (85, 121) :: (91, 121) :: (93, 121) :: (95, 121) :: (97, 121) :: (99, 121) :: (101, 121) :: (103, 121) :: (105, 121) :: (107, 121) :: (109, 121) :: (111, 121) :: (113, 121) :: (115, 121) :: (117, 121) :: (119, 121) :: (85, 123) :: (91, 123) :: (93, 123) :: (95, 123) :: (97, 123) :: (99, 123) :: (101, 123) :: (103, 123) :: (105, 123) :: (107, 123) :: (109, 123) :: (111, 123) :: (113, 123) :: (115, 123) :: (117, 123) :: (119, 123) :: (121, 123) :: [])
theorem gvN_eq : gvL.filterMap prN = gvN := by decide +kernel
theorem gvN_in {i j : Nat} (h : (i, j) ∈ gvN) : Cond.not (Cond.eq (.string RX5 i) (.string RX5 j)) ∈ gvL := by
  rw [← gvN_eq] at h
  obtain ⟨c, h1, h2⟩ := List.mem_filterMap.mp h
  rw [← prN_spec h2]
  exact h1
theorem gvN_all : ∀ i, i < 18 → ∀ j, j < i → (strIx j, strIx i) ∈ gvN ∨ (strIx i, strIx j) ∈ gvN := by decide +kernel
theorem gv_ne (i : Nat) (hi : i < 18) (j : Nat) (hj : j < i) : Cond.not (Cond.eq (strTm j) (strTm i)) ∈ gvL ∨ Cond.not (Cond.eq (strTm i) (strTm j)) ∈ gvL := (gvN_all i hi j hj).imp gvN_in gvN_in
theorem gv_len : ∀ i, i < 18 → strLen.getD i 0 < 2 ^ 31 := by decide +kernel
theorem gv_tab (nm : String) (f : Nat → Int32) (hl : Cond.laysStatic RX2 nm "[I" ∈ lw_tbl) (ha : Cond.arrayOf (.static RX2 nm "[I") .int ∈ gvL) (hn : Cond.eq (.length (.static RX2 nm "[I")) (.int (Int32.ofNat 8)) ∈ gvL) (he : ∀ j, j < 8 → Cond.eq (.elem (.static RX2 nm "[I") (.int (Int32.ofNat j))) (.int (f j)) ∈ gvL) {args : Array Value} {s : State} {A : Nat → Prop} (hA : ∀ a : Nat, a < s.heap.size → ¬ A a) (hts : ∀ w ∈ lw_tbl, w.before args s = true) (hg : ∀ w ∈ gvL, w.before args s = true) : ∃ t : Nat, va_Z RX2 nm "[I" (.ref t) A s s.heap ∧ va_T .int t 8 (fun j => .int (f j)) A s s.heap := by
  obtain ⟨t, h1, h2⟩ := va_Tof (f := fun j => .int (f j)) (A := A) (by decide) (hg _ ha) (va_eqt (hg _ hn)) (fun j hj => va_eqt (hg _ (he j hj))) hA
  exact ⟨t, va_Zof (hts _ hl) (hts _ (List.mem_filter.mp w_60).1) h1 hA, h2⟩
theorem en_of {args : Array Value} {s : State} {A : Nat → Prop} (hA : ∀ a : Nat, a < s.heap.size → ¬ A a) (hts : ∀ w ∈ lw_tbl, w.before args s = true) (hg : ∀ w ∈ gvL, w.before args s = true) : ∃ en : EnT, EN en A s s.heap := by
  obtain ⟨adK, adV, h1, h2⟩ := vk_Sof (N := 18) (tm := strTm) (len := strLen) (byt := strByt) (A := A) gv_len (fun i hi => hg _ (gv_ex i hi)) (fun i hi => hg _ (gv_co i hi)) (fun i hi => hg _ (gv_ar i hi)) (fun i hi => hg _ (gv_le i hi)) (fun i hi j hj => hg _ (gv_el i hi j hj)) (fun i j hi hj hij => by
    rcases Nat.lt_or_gt_of_ne hij with h | h
    · rcases gv_ne j hj i h with h | h
      · exact Or.inl (hg _ h)
      · exact Or.inr (hg _ h)
    · rcases gv_ne i hi j h with h | h
      · exact Or.inr (hg _ h)
      · exact Or.inl (hg _ h)) hA
  obtain ⟨t1, h3, h4⟩ := gv_tab "COLUMNS_ON" colF (by decide +kernel) (by decide +kernel) (by decide +kernel) (by decide +kernel) hA hts hg
  obtain ⟨t2, h5, h6⟩ := gv_tab "ROWS_ON" rowF (by decide +kernel) (by decide +kernel) (by decide +kernel) (by decide +kernel) hA hts hg
  have h7 : va_Z "java/lang/String" "COMPACT_STRINGS" "Z" (.int 1) A s s.heap := va_Zof (hts _ (by decide +kernel)) (hts _ (by decide +kernel)) (va_eqi (hg _ (by decide +kernel))) hA
  have h8 : va_Zq "jdk/internal/util/Preconditions" "SIOOBE_FORMATTER" "Ljava/util/function/BiFunction;" A s s.heap := va_Zqof (hts _ (by decide +kernel)) (hts _ (by decide +kernel)) (hg _ (by decide +kernel)) hA
  have hsr : ∀ i, i < 18 → Cond.stringRef RX5 (strIx i) (strTx.getD i "") ∈ lw_tbl := by decide +kernel
  have hnw : ∀ w ∈ nestW, w ∈ lw_tbl ∧ w.onTables = true := by decide +kernel
  obtain ⟨fm, h9⟩ : ∃ fm : Option Nat, va_Z "jdk/internal/util/Preconditions" "SIOOBE_FORMATTER" "Ljava/util/function/BiFunction;" (va_rf fm) A s s.heap := by
    rcases h8 with h | ⟨t, h⟩
    · exact ⟨none, h⟩
    · exact ⟨some t, h⟩
  exact ⟨(adK, adV, t1, t2, fm), h1, fun i hi => vk_R.of (hts _ (hsr i hi)) (h2 i hi), h3, h4, h5, h6, h7, h9, fun w hw => va_Nw.of (hnw w hw).2 (hts _ (hnw w hw).1)⟩
theorem k_of {args : Array Value} {s : State} (hts : ∀ w ∈ lw_g, w.before args s = true) : ∃ (D : va_G) (cI cJ cZ : ClassId), va_K D vwCl (TY cI cJ cZ) s := by
  obtain ⟨c0, iS0, hKn0⟩ := u_known (C := RX0) (T := TX0) (N := 1) (n := 1) hts inX0 (hts _ w_247)
  obtain ⟨c1, iS1, hKn1⟩ := u_known (C := RX1) (T := TX1) (N := 9) (n := 9) hts inX1 (hts _ w_173)
  obtain ⟨c2, iS2, hKn2⟩ := u_known (C := RX2) (T := TX2) (N := 9) (n := 9) hts inX2 (hts _ w_125)
  obtain ⟨c3, iS3, hKn3⟩ := u_known (C := RX3) (T := TX3) (N := 1) (n := 1) hts inX3 (hts _ w_257)
  obtain ⟨c4, iS4, hKn4⟩ := u_known (C := RX4) (T := TX4) (N := 3) (n := 3) hts inX4 (hts _ w_211)
  obtain ⟨c5, iS5, hKn5⟩ := u_known (C := RX5) (T := TX5) (N := 6) (n := 6) hts inX5 (hts _ w_99)
  obtain ⟨c6, iS6, hKn6⟩ := u_known (C := RX6) (T := TX6) (N := 2) (n := 2) hts inX6 (hts _ w_268)
  obtain ⟨c7, iS7, hKn7⟩ := u_known (C := RX7) (T := TX7) (N := 2) (n := 2) hts inX7 (hts _ w_84)
  obtain ⟨c8, iS8, hKn8⟩ := u_known (C := RX8) (T := TX8) (N := 2) (n := 2) hts inX8 (hts _ w_234)
  obtain ⟨c9, iS9, hKn9⟩ := u_known (C := RX9) (T := TX9) (N := 14) (n := 14) hts inX9 (hts _ w_76)
  obtain ⟨c10, iS10, hKn10⟩ := u_known (C := RX10) (T := TX10) (N := 29) (n := 29) hts inX10 (hts _ w_900)
  obtain ⟨cI, hI1, hI2⟩ := ar_of (ty := .int) (fun _ h => h) (hts _ w_97)
  obtain ⟨cJ, hJ1, hJ2⟩ := ar_of (ty := .long) (fun _ h => h) (hts _ w_266)
  obtain ⟨cZ, hZ1, hZ2⟩ := ar_of (ty := .boolean) (fun _ h => h) (hts _ w_209)
  refine ⟨(fun k => match k with | 0 => c0 | 1 => c1 | 2 => c2 | 3 => c3 | 4 => c4 | 5 => c5 | 6 => c6 | 7 => c7 | 8 => c8 | 9 => c9 | _ => c10, fun k => match k with | 0 => iS0 | 1 => iS1 | 2 => iS2 | 3 => iS3 | 4 => iS4 | 5 => iS5 | 6 => iS6 | 7 => iS7 | 8 => iS8 | 9 => iS9 | _ => iS10), cI, cJ, cZ, ?_, ?_⟩
  · intro k q hq
    match k, hq with
    | 0, hq => cases hq; exact hKn0
    | 1, hq => cases hq; exact hKn1
    | 2, hq => cases hq; exact hKn2
    | 3, hq => cases hq; exact hKn3
    | 4, hq => cases hq; exact hKn4
    | 5, hq => cases hq; exact hKn5
    | 6, hq => cases hq; exact hKn6
    | 7, hq => cases hq; exact hKn7
    | 8, hq => cases hq; exact hKn8
    | 9, hq => cases hq; exact hKn9
    | 10, hq => cases hq; exact hKn10
    | k + 11, hq => cases hq
  · intro k q hq
    match k, hq with
    | 0, hq => cases hq; exact ⟨hI1, hI2⟩
    | 1, hq => cases hq; exact ⟨hJ1, hJ2⟩
    | 2, hq => cases hq; exact ⟨hZ1, hZ2⟩
    | k + 3, hq => cases hq

theorem lk6 {k L : Nat} (hL : L ≤ 3072) (hk : k ≤ L) (h : ¬ Int32.ofNat L - 6 < nI k) : k + 6 ≤ L := by
  have h1 : (Int32.ofNat L - 6).toInt = (L : Int) - 6 := by
    rw [Int32.toInt_sub, show (Int32.ofNat L).toInt = (L : Int) from nI_toInt (n := L) (by omega), show (6 : Int32).toInt = 6 from rfl]
    exact Int.bmod_eq_of_le (by omega) (by omega)
  rw [Int32.lt_iff_toInt_lt, h1, nI_toInt (by omega)] at h
  omega
theorem ar_of {ty : FieldType} {a : Array Value} {s : State} (hp : ∀ cA, s.vm.findClass ("[" ++ ty.toString) = some cA → va_RA s cA ty) (h : (Cond.arrayClass ty).before a s = true) : ∃ cA, ArrOfT s cA ty ∧ va_RA s cA ty := by
  obtain ⟨cA, k, comp, h1, h2, h3⟩ := Cond.arrayClass_spec h
  exact ⟨cA, fun n z => ⟨fun k h => (by cases h), k, h2, comp, h3⟩, hp cA h1⟩
set_option maxHeartbeats 4000000 in
set_option maxRecDepth 100000 in
theorem law_loop {p : Program} {l : Launch} {e : Env} {s : State} {m : MethodId} {below : List Frame} {meth : Method} {c : Code} {D : va_G} {cI cJ cZ : ClassId} {en : EnT} {b L q1 q2 : Nat} {u v : Nat → Nat} {xs : Nat → Int32} {Rel : RelT} (hx : p.tables.exec = Jvm.exec) (hb : c.code = cL_law) (hml : c.maxLocals = 4) (hown : s.vm.findClass RL = some m.cls) (hts : ∀ w ∈ lw_g, w.before #[Value.ref b] s = true) (hX : va_X b L xs s s.heap) (hbl : b < s.heap.size) (hK : va_K D vwCl (TY cI cJ cZ) s) (hE : EN en (fun q : Nat => s.heap.size ≤ q) s s.heap) (hr : meth.sig.returnType = ret) (hlocks : meth.locks = false) (hL : L ≤ 3072) (ob0 : Ob_write Rel) (ob1 : Ob_erase Rel) (ob2 : Ob_fault Rel) (ob3 : Ob_canyon Rel) (ob4 : Ob_cell Rel) (ob5 : Ob_person Rel) (ob6 : Ob_law Rel) (ob7 : Ob_cry Rel) (ob8 : Ob_costs Rel) (ob9 : Ob_sounds Rel) (ob10 : Ob_led Rel) (ob11 : Ob_whisper Rel) (ob12 : Ob_owed Rel) (ob13 : Ob_pay Rel) (ob14 : Ob_settled Rel) (ob15 : Ob_stand Rel) (ob16 : Ob_fall Rel) (ob17 : Ob_changed Rel) (ob18 : Ob_note Rel) (ob19 : Ob_forget Rel) (ob20 : Ob_who Rel) (ob21 : Ob_living Rel) (ob22 : Ob_cancel Rel) (ob23 : Ob_keep Rel) (ob24 : Ob_back Rel) (ob25 : Ob_count Rel) : ∀ (n k : Nat) (x3 : Int32), k ≤ L → L + 1 ≤ k + n → x3 = nI k → ∀ (X : Nat → Int32) (XA : Nat → Nat → Int32) (XL : Nat → Int64) (Y : Nat → Int32) (YA : Nat → Nat → Int32) (o : Option Nat), Rel X XA Y YA → ∀ (H : Heap) (locs : List Loc) (ls : Array Slot), va_P D vwCl (wLaw cI cJ cZ q1 q2 u v X XA XL Y YA o) H → va_D (fun q : Nat => s.heap.size ≤ q) (wLaw cI cJ cZ q1 q2 u v X XA XL Y YA o) → va_S (fun q : Nat => s.heap.size ≤ q) s.heap H locs → lv_has ls 4 [(0, .ref b), (1, .ref q1), (2, .ref q2), (3, .int x3)] → W p l e room_1 s m #[Value.ref b] below meth c H locs 78 6119 (lw_Z below #[Value.ref b] s) (F0 m 18 ls []) := by
  have hA : ∀ q : Nat, s.heap.size ≤ q → (fun q : Nat => s.heap.size ≤ q) q := fun _ h => h
  have hbA : ¬ (fun q : Nat => s.heap.size ≤ q) b := Nat.not_le.mpr hbl
  intro n
  induction n with
  | zero =>
    intro k x3 h1 h2
    exact absurd h2 (by omega)
  | succ n ih =>
    intro k x3 hk hkn ex X XA XL Y YA o hrel H locs ls hP hD hS hl
    refine lv_iload_n hx hb dL_law_18 rfl (lv_at hl 3 rfl) ?_
    refine lv_aload_n hx hb dL_law_19 rfl (lv_at hl 0 rfl) ?_
    refine va_slen hx hb hX hbl hbA hS dL_law_20 ?_
    refine lv_bipush (v := 6) hx hb dL_law_21 (by decide) ?_
    refine lv_isub hx hb dL_law_23 ?_
    refine lv_icmp_gt (tgt := 1260) hx hb dL_law_24 (by decide) (fun h => ?_) (fun h => ?_)
    · refine lv_iconst (v := 1) hx hb dL_law_1260 (by decide) ?_
      refine va_forget (fun q hq => hS.2.2 q hq) ?_
      exact lw_ret hx hb hr hlocks dL_law_1261
    · have hk6 : k + 6 ≤ L := lk6 hL hk (by rw [← ex]; exact h)
      have hi0 : vp_in x3 L := by rw [ex]; exact vp_in_nI (by omega) (by omega)
      have hi1 : vp_in (x3 + 1) L := by rw [ex, show (nI k + 1 : Int32) = nI (k + 1) from nI_add k 1]; exact vp_in_nI (by omega) (by omega)
      have hi2 : vp_in (x3 + 2) L := by rw [ex, show (nI k + 2 : Int32) = nI (k + 2) from nI_add k 2]; exact vp_in_nI (by omega) (by omega)
      have hi3 : vp_in (x3 + 3) L := by rw [ex, show (nI k + 3 : Int32) = nI (k + 3) from nI_add k 3]; exact vp_in_nI (by omega) (by omega)
      have hi4 : vp_in (x3 + 4) L := by rw [ex, show (nI k + 4 : Int32) = nI (k + 4) from nI_add k 4]; exact vp_in_nI (by omega) (by omega)
      have hi5 : vp_in (x3 + 5) L := by rw [ex, show (nI k + 5 : Int32) = nI (k + 5) from nI_add k 5]; exact vp_in_nI (by omega) (by omega)
      have ih2 : ∀ (X : Nat → Int32) (XA : Nat → Nat → Int32) (XL : Nat → Int64) (Y : Nat → Int32) (YA : Nat → Nat → Int32) (o : Option Nat), Rel X XA Y YA → ∀ (H : Heap) (locs : List Loc) (ls : Array Slot), va_P D vwCl (wLaw cI cJ cZ q1 q2 u v X XA XL Y YA o) H → va_D (fun q : Nat => s.heap.size ≤ q) (wLaw cI cJ cZ q1 q2 u v X XA XL Y YA o) → va_S (fun q : Nat => s.heap.size ≤ q) s.heap H locs → lv_has ls 4 [(0, .ref b), (1, .ref q1), (2, .ref q2), (3, .int (x3 + 6))] → W p l e room_1 s m #[Value.ref b] below meth c H locs 78 6119 (lw_Z below #[Value.ref b] s) (F0 m 18 ls []) := fun X XA XL Y YA o hrel => ih (k + 6) (x3 + 6) (by omega) (by omega) (by rw [ex]; exact nI_add k 6) X XA XL Y YA o hrel
      refine lv_aload_n hx hb dL_law_27 rfl (lv_at hl 0 rfl) ?_
      refine lv_iload_n hx hb dL_law_28 rfl (lv_at hl 3 rfl) ?_
      refine va_sld hx hb hX hbl hbA hS hi0 dL_law_29 ?_
      refine lv_bipush (v := 31) hx hb dL_law_30 (by decide) ?_
      refine lv_iand hx hb dL_law_32 ?_
      refine lv_topi (fun w ew => ?_)
      by_cases h100 : w = 0
      · refine lv_tableIn (off := 119) (tgt := 152) hx hb dL_law_33 (by rw [h100]; decide) (by rw [h100]; decide) (by rw [h100]; rfl) (by decide) ?_
        exact law_case_0_write hx hb hml hown hts hX hbl hbA hA hK hE hi0 hi1 hi2 hi3 hi4 hi5 ob0 X XA XL Y YA o hrel ih2 H locs ls hP hD hS hl
      by_cases h101 : w = 1
      · refine lv_tableIn (off := 182) (tgt := 215) hx hb dL_law_33 (by rw [h101]; decide) (by rw [h101]; decide) (by rw [h101]; rfl) (by decide) ?_
        exact law_case_1_erase hx hb hml hown hts hX hbl hbA hA hK hE hi0 hi1 hi2 hi3 hi4 hi5 ob1 X XA XL Y YA o hrel ih2 H locs ls hP hD hS hl
      by_cases h102 : w = 2
      · refine lv_tableIn (off := 195) (tgt := 228) hx hb dL_law_33 (by rw [h102]; decide) (by rw [h102]; decide) (by rw [h102]; rfl) (by decide) ?_
        exact law_case_2_fault hx hb hml hown hts hX hbl hbA hA hK hE hi0 hi1 hi2 hi3 hi4 hi5 ob2 X XA XL Y YA o hrel ih2 H locs ls hP hD hS hl
      by_cases h103 : w = 3
      · refine lv_tableIn (off := 208) (tgt := 241) hx hb dL_law_33 (by rw [h103]; decide) (by rw [h103]; decide) (by rw [h103]; rfl) (by decide) ?_
        exact law_case_3_canyon hx hb hml hown hts hX hbl hbA hA hK hE hi0 hi1 hi2 hi3 hi4 hi5 ob3 X XA XL Y YA o hrel ih2 H locs ls hP hD hS hl
      by_cases h104 : w = 4
      · refine lv_tableIn (off := 221) (tgt := 254) hx hb dL_law_33 (by rw [h104]; decide) (by rw [h104]; decide) (by rw [h104]; rfl) (by decide) ?_
        exact law_case_4_cell hx hb hml hown hts hX hbl hbA hA hK hE hi0 hi1 hi2 hi3 hi4 hi5 ob4 X XA XL Y YA o hrel ih2 H locs ls hP hD hS hl
      by_cases h105 : w = 5
      · refine lv_tableIn (off := 254) (tgt := 287) hx hb dL_law_33 (by rw [h105]; decide) (by rw [h105]; decide) (by rw [h105]; rfl) (by decide) ?_
        exact law_case_5_person hx hb hml hown hts hX hbl hbA hA hK hE hi0 hi1 hi2 hi3 hi4 hi5 ob5 X XA XL Y YA o hrel ih2 H locs ls hP hD hS hl
      by_cases h106 : w = 6
      · refine lv_tableIn (off := 287) (tgt := 320) hx hb dL_law_33 (by rw [h106]; decide) (by rw [h106]; decide) (by rw [h106]; rfl) (by decide) ?_
        exact law_case_6_law hx hb hml hown hts hX hbl hbA hA hK hE hi0 hi1 hi2 hi3 hi4 hi5 ob6 X XA XL Y YA o hrel ih2 H locs ls hP hD hS hl
      by_cases h107 : w = 7
      · refine lv_tableIn (off := 320) (tgt := 353) hx hb dL_law_33 (by rw [h107]; decide) (by rw [h107]; decide) (by rw [h107]; rfl) (by decide) ?_
        exact law_case_7_cry hx hb hml hown hts hX hbl hbA hA hK hE hi0 hi1 hi2 hi3 hi4 hi5 ob7 X XA XL Y YA o hrel ih2 H locs ls hP hD hS hl
      by_cases h108 : w = 8
      · refine lv_tableIn (off := 389) (tgt := 422) hx hb dL_law_33 (by rw [h108]; decide) (by rw [h108]; decide) (by rw [h108]; rfl) (by decide) ?_
        exact law_case_8_costs hx hb hml hown hts hX hbl hbA hA hK hE hi0 hi1 hi2 hi3 hi4 hi5 ob8 X XA XL Y YA o hrel ih2 H locs ls hP hD hS hl
      by_cases h109 : w = 9
      · refine lv_tableIn (off := 458) (tgt := 491) hx hb dL_law_33 (by rw [h109]; decide) (by rw [h109]; decide) (by rw [h109]; rfl) (by decide) ?_
        exact law_case_9_sounds hx hb hml hown hts hX hbl hbA hA hK hE hi0 hi1 hi2 hi3 hi4 hi5 ob9 X XA XL Y YA o hrel ih2 H locs ls hP hD hS hl
      by_cases h110 : w = 10
      · refine lv_tableIn (off := 537) (tgt := 570) hx hb dL_law_33 (by rw [h110]; decide) (by rw [h110]; decide) (by rw [h110]; rfl) (by decide) ?_
        exact law_case_10_led hx hb hml hown hts hX hbl hbA hA hK hE hi0 hi1 hi2 hi3 hi4 hi5 ob10 X XA XL Y YA o hrel ih2 H locs ls hP hD hS hl
      by_cases h111 : w = 11
      · refine lv_tableIn (off := 616) (tgt := 649) hx hb dL_law_33 (by rw [h111]; decide) (by rw [h111]; decide) (by rw [h111]; rfl) (by decide) ?_
        exact law_case_11_whisper hx hb hml hown hts hX hbl hbA hA hK hE hi0 hi1 hi2 hi3 hi4 hi5 ob11 X XA XL Y YA o hrel ih2 H locs ls hP hD hS hl
      by_cases h112 : w = 12
      · refine lv_tableIn (off := 675) (tgt := 708) hx hb dL_law_33 (by rw [h112]; decide) (by rw [h112]; decide) (by rw [h112]; rfl) (by decide) ?_
        exact law_case_12_owed hx hb hml hown hts hX hbl hbA hA hK hE hi0 hi1 hi2 hi3 hi4 hi5 ob12 X XA XL Y YA o hrel ih2 H locs ls hP hD hS hl
      by_cases h113 : w = 13
      · refine lv_tableIn (off := 708) (tgt := 741) hx hb dL_law_33 (by rw [h113]; decide) (by rw [h113]; decide) (by rw [h113]; rfl) (by decide) ?_
        exact law_case_13_pay hx hb hml hown hts hX hbl hbA hA hK hE hi0 hi1 hi2 hi3 hi4 hi5 ob13 X XA XL Y YA o hrel ih2 H locs ls hP hD hS hl
      by_cases h114 : w = 14
      · refine lv_tableIn (off := 751) (tgt := 784) hx hb dL_law_33 (by rw [h114]; decide) (by rw [h114]; decide) (by rw [h114]; rfl) (by decide) ?_
        exact law_case_14_settled hx hb hml hown hts hX hbl hbA hA hK hE hi0 hi1 hi2 hi3 hi4 hi5 ob14 X XA XL Y YA o hrel ih2 H locs ls hP hD hS hl
      by_cases h115 : w = 15
      · refine lv_tableIn (off := 764) (tgt := 797) hx hb dL_law_33 (by rw [h115]; decide) (by rw [h115]; decide) (by rw [h115]; rfl) (by decide) ?_
        exact law_case_15_stand hx hb hml hown hts hX hbl hbA hA hK hE hi0 hi1 hi2 hi3 hi4 hi5 ob15 X XA XL Y YA o hrel ih2 H locs ls hP hD hS hl
      by_cases h116 : w = 16
      · refine lv_tableIn (off := 843) (tgt := 876) hx hb dL_law_33 (by rw [h116]; decide) (by rw [h116]; decide) (by rw [h116]; rfl) (by decide) ?_
        exact law_case_16_fall hx hb hml hown hts hX hbl hbA hA hK hE hi0 hi1 hi2 hi3 hi4 hi5 ob16 X XA XL Y YA o hrel ih2 H locs ls hP hD hS hl
      by_cases h117 : w = 17
      · refine lv_tableIn (off := 866) (tgt := 899) hx hb dL_law_33 (by rw [h117]; decide) (by rw [h117]; decide) (by rw [h117]; rfl) (by decide) ?_
        exact law_case_17_changed hx hb hml hown hts hX hbl hbA hA hK hE hi0 hi1 hi2 hi3 hi4 hi5 ob17 X XA XL Y YA o hrel ih2 H locs ls hP hD hS hl
      by_cases h118 : w = 18
      · refine lv_tableIn (off := 935) (tgt := 968) hx hb dL_law_33 (by rw [h118]; decide) (by rw [h118]; decide) (by rw [h118]; rfl) (by decide) ?_
        exact law_case_18_note hx hb hml hown hts hX hbl hbA hA hK hE hi0 hi1 hi2 hi3 hi4 hi5 ob18 X XA XL Y YA o hrel ih2 H locs ls hP hD hS hl
      by_cases h119 : w = 19
      · refine lv_tableIn (off := 968) (tgt := 1001) hx hb dL_law_33 (by rw [h119]; decide) (by rw [h119]; decide) (by rw [h119]; rfl) (by decide) ?_
        exact law_case_19_forget hx hb hml hown hts hX hbl hbA hA hK hE hi0 hi1 hi2 hi3 hi4 hi5 ob19 X XA XL Y YA o hrel ih2 H locs ls hP hD hS hl
      by_cases h120 : w = 20
      · refine lv_tableIn (off := 981) (tgt := 1014) hx hb dL_law_33 (by rw [h120]; decide) (by rw [h120]; decide) (by rw [h120]; rfl) (by decide) ?_
        exact law_case_20_who hx hb hml hown hts hX hbl hbA hA hK hE hi0 hi1 hi2 hi3 hi4 hi5 ob20 X XA XL Y YA o hrel ih2 H locs ls hP hD hS hl
      by_cases h121 : w = 21
      · refine lv_tableIn (off := 1050) (tgt := 1083) hx hb dL_law_33 (by rw [h121]; decide) (by rw [h121]; decide) (by rw [h121]; rfl) (by decide) ?_
        exact law_case_21_living hx hb hml hown hts hX hbl hbA hA hK hE hi0 hi1 hi2 hi3 hi4 hi5 ob21 X XA XL Y YA o hrel ih2 H locs ls hP hD hS hl
      by_cases h122 : w = 22
      · refine lv_tableIn (off := 1073) (tgt := 1106) hx hb dL_law_33 (by rw [h122]; decide) (by rw [h122]; decide) (by rw [h122]; rfl) (by decide) ?_
        exact law_case_22_cancel hx hb hml hown hts hX hbl hbA hA hK hE hi0 hi1 hi2 hi3 hi4 hi5 ob22 X XA XL Y YA o hrel ih2 H locs ls hP hD hS hl
      by_cases h123 : w = 23
      · refine lv_tableIn (off := 1152) (tgt := 1185) hx hb dL_law_33 (by rw [h123]; decide) (by rw [h123]; decide) (by rw [h123]; rfl) (by decide) ?_
        exact law_case_23_keep hx hb hml hown hts hX hbl hbA hA hK hE hi0 hi1 hi2 hi3 hi4 hi5 ob23 X XA XL Y YA o hrel ih2 H locs ls hP hD hS hl
      by_cases h124 : w = 24
      · refine lv_tableIn (off := 1175) (tgt := 1208) hx hb dL_law_33 (by rw [h124]; decide) (by rw [h124]; decide) (by rw [h124]; rfl) (by decide) ?_
        exact law_case_24_back hx hb hml hown hts hX hbl hbA hA hK hE hi0 hi1 hi2 hi3 hi4 hi5 ob24 X XA XL Y YA o hrel ih2 H locs ls hP hD hS hl
      by_cases h125 : w = 25
      · refine lv_tableIn (off := 1198) (tgt := 1231) hx hb dL_law_33 (by rw [h125]; decide) (by rw [h125]; decide) (by rw [h125]; rfl) (by decide) ?_
        exact law_case_25_count hx hb hml hown hts hX hbl hbA hA hK hE hi0 hi1 hi2 hi3 hi4 hi5 ob25 X XA XL Y YA o hrel ih2 H locs ls hP hD hS hl
      refine tb_out2 (tgt := 1254) hx hb dL_law_33 rfl [0, 1, 2, 3, 4, 5, 6, 7, 8, 9, 10, 11, 12, 13, 14, 15, 16, 17, 18, 19, 20, 21, 22, 23, 24, 25] (List.forall_mem_cons.mpr ⟨h100, List.forall_mem_cons.mpr ⟨h101, List.forall_mem_cons.mpr ⟨h102, List.forall_mem_cons.mpr ⟨h103, List.forall_mem_cons.mpr ⟨h104, List.forall_mem_cons.mpr ⟨h105, List.forall_mem_cons.mpr ⟨h106, List.forall_mem_cons.mpr ⟨h107, List.forall_mem_cons.mpr ⟨h108, List.forall_mem_cons.mpr ⟨h109, List.forall_mem_cons.mpr ⟨h110, List.forall_mem_cons.mpr ⟨h111, List.forall_mem_cons.mpr ⟨h112, List.forall_mem_cons.mpr ⟨h113, List.forall_mem_cons.mpr ⟨h114, List.forall_mem_cons.mpr ⟨h115, List.forall_mem_cons.mpr ⟨h116, List.forall_mem_cons.mpr ⟨h117, List.forall_mem_cons.mpr ⟨h118, List.forall_mem_cons.mpr ⟨h119, List.forall_mem_cons.mpr ⟨h120, List.forall_mem_cons.mpr ⟨h121, List.forall_mem_cons.mpr ⟨h122, List.forall_mem_cons.mpr ⟨h123, List.forall_mem_cons.mpr ⟨h124, List.forall_mem_cons.mpr ⟨h125, fun _ h9 => absurd h9 List.not_mem_nil⟩⟩⟩⟩⟩⟩⟩⟩⟩⟩⟩⟩⟩⟩⟩⟩⟩⟩⟩⟩⟩⟩⟩⟩⟩⟩) (by decide +kernel) (by decide) ?_
      refine lv_iinc (v := (x3 + 6)) (lv' := [(3, .int (x3 + 6)), (0, .ref b), (1, .ref q1), (2, .ref q2)]) hx hb dL_law_1254 hl (k := 3) rfl rfl (by decide) rfl (fun ls hl => ?_)
      refine lv_goto (tgt := 18) hx hb dL_law_1257 (by decide) ?_
      exact ih2 X XA XL Y YA o hrel _ _ _ hP hD hS (lv_sub hl [1, 2, 3, 0] rfl)

def f_J0_coder_7d493 (x0 : Nat) : Option (Int32) :=
  gd (x0 < strN) ((gd ((0 : Int32).toInt8.toInt32 = 0) (some 0)))
theorem gv_J0_coder_7d493 {own : String} {idx : Nat} (h : Cond.methodLink own idx yJ0_coder_7d493 ∈ lw_g) : GoodIn lw_g (wsV own idx RJ0 yJ0_coder_7d493 (Cond.code yJ0_coder_7d493 cJ0_coder_7d493 1 (some .byte) :: lw_g)) := gV h w_381 w_382 w_69 w_383
theorem hd_J0_coder_7d493 : yJ0_coder_7d493.cls = RJ0 ∧ yJ0_coder_7d493.cls ≠ "java/lang/invoke/MethodHandle" ∧ yJ0_coder_7d493.cls ≠ "java/lang/invoke/VarHandle" ∧ (parseMethodDescriptor yJ0_coder_7d493.desc).map (fun d => d.parameters.length) = some 0 := by decide +kernel
set_option maxHeartbeats 4000000 in
set_option maxRecDepth 100000 in
theorem c_J0_coder_7d493 (l : Launch) (D : va_G) (cI cJ cZ : ClassId) (en : EnT) (sz : Nat) (x0 : Nat) {z : Int32} (hf : f_J0_coder_7d493 x0 = some z) : Met l yJ0_coder_7d493 (Cond.code yJ0_coder_7d493 cJ0_coder_7d493 1 (some .byte) :: lw_g) ({ frames := 0, cells := 0, slots := 0, locals := 0 } : Room) (PC D cI cJ cZ en ([.ref (en.1 x0)] : List Value) [] sz) (QI D cI cJ cZ [] z (va_A [] sz)) 0 0 (va_A [] sz) := by
  refine mk_met (Qc := fun A => (QI D cI cJ cZ [] z A)) RJ0 (by decide) rfl (Nat.le_of_ble_eq_true rfl) ?_
  intro p e s m below meth c ls A hx hb hr hml hown hts hlocks hA hK hE hl hD H locs hP hS
  have hl : lv_has ls 1 [(0, .ref (en.1 x0))] := hl
  unfold f_J0_coder_7d493 at hf
  refine va_gets hx hb hE.2.2.2.2.2.2.1 hS hown (hts _ w_384) (fun _ h9 => h9) dJ0_coder_7d493_0 ?_
  refine lv_if_eq (tgt := 13) hx hb dJ0_coder_7d493_3 (by decide) (fun h_1 => ?_) (fun h_1 => ?_)
  · exact absurd h_1 (by decide)
  · skip
    refine lv_aload_n hx hb dJ0_coder_7d493_6 rfl (lv_at hl 0 rfl) ?_
    obtain ⟨hin, hf⟩ := gd_some hf
    refine vk_getf hx hb (hE.1.1 _ hin).2.1 hS hown (hts _ w_1266) (fun _ h9 => h9) dJ0_coder_7d493_7 ?_
    refine lv_goto (tgt := 14) hx hb dJ0_coder_7d493_10 (by decide) ?_
    obtain ⟨hin, hf⟩ := gd_some hf
    have hf := Option.some.inj hf
    subst hf
    exact rt_n hx hb hr hlocks hK hP hS (nar_byte hin) dJ0_coder_7d493_14

def f_J0_length_8abf5 (x0 : Nat) : Option (Int32) :=
  gd (x0 < strN) (gd (x0 < strN) (gd (x0 < strN) ((f_J0_coder_7d493 x0).bind (fun z6 => (some ((Int32.ofNat (strLen.getD x0 0)) >>> (z6 &&& 31)))))))
theorem gv_J0_length_8abf5 {own : String} {idx : Nat} (h : Cond.methodLink own idx yJ0_length_8abf5 ∈ lw_g) : GoodIn lw_g (wsV own idx RJ0 yJ0_length_8abf5 (Cond.code yJ0_length_8abf5 cJ0_length_8abf5 1 (some .int) :: lw_g)) := gV h w_377 w_378 w_69 w_379
theorem hd_J0_length_8abf5 : yJ0_length_8abf5.cls = RJ0 ∧ yJ0_length_8abf5.cls ≠ "java/lang/invoke/MethodHandle" ∧ yJ0_length_8abf5.cls ≠ "java/lang/invoke/VarHandle" ∧ (parseMethodDescriptor yJ0_length_8abf5.desc).map (fun d => d.parameters.length) = some 0 := by decide +kernel
set_option maxHeartbeats 4000000 in
set_option maxRecDepth 100000 in
theorem c_J0_length_8abf5 (l : Launch) (D : va_G) (cI cJ cZ : ClassId) (en : EnT) (sz : Nat) (x0 : Nat) {z : Int32} (hf : f_J0_length_8abf5 x0 = some z) : Met l yJ0_length_8abf5 (Cond.code yJ0_length_8abf5 cJ0_length_8abf5 1 (some .int) :: lw_g) ({ frames := 1, cells := 0, slots := 0, locals := 20 } : Room) (PC D cI cJ cZ en ([.ref (en.1 x0)] : List Value) [] sz) (QI D cI cJ cZ [] z (va_A [] sz)) 0 0 (va_A [] sz) := by
  refine mk_met (Qc := fun A => (QI D cI cJ cZ [] z A)) RJ0 (by decide) rfl (Nat.le_of_ble_eq_true rfl) ?_
  intro p e s m below meth c ls A hx hb hr hml hown hts hlocks hA hK hE hl hD H locs hP hS
  have hl : lv_has ls 1 [(0, .ref (en.1 x0))] := hl
  unfold f_J0_length_8abf5 at hf
  refine lv_aload_n hx hb dJ0_length_8abf5_0 rfl (lv_at hl 0 rfl) ?_
  obtain ⟨hin, hf⟩ := gd_some hf
  refine vk_getf hx hb (hE.1.1 _ hin).2.2.1 hS hown (hts _ w_1265) (fun _ h9 => h9) dJ0_length_8abf5_1 ?_
  obtain ⟨hin, hf⟩ := gd_some hf
  refine va_tlen (v := (Int32.ofNat (strLen.getD x0 0))) hx hb (hE.1.1 _ hin).2.2.2 hS rfl dJ0_length_8abf5_4 ?_
  refine lv_aload_n hx hb dJ0_length_8abf5_5 rfl (lv_at hl 0 rfl) ?_
  obtain ⟨hin, hf⟩ := gd_some hf
  obtain ⟨z6_1, hz6_1, hf⟩ := bd_some hf
  refine cRi (rest := [.int (Int32.ofNat (strLen.getD x0 0))]) ⟨hx, hb, hml, hown, hts⟩ hE hK hP hD hS hA (c_J0_coder_7d493 l D cI cJ cZ en  H.size x0 hz6_1) (gv_J0_coder_7d493 w_380) hd_J0_coder_7d493 ⟨rfl, rfl⟩ ⟨by decide, by decide⟩ [] trivial rfl trivial (vk_recv hE.1 hin hS)  hl rfl (Nat.le_of_ble_eq_true rfl) ⟨Nat.zero_le _, Nat.zero_le _⟩ dJ0_length_8abf5_6 (fun H locs hP hD hS => ?_)
  have hP : va_P D vwCl [] H := hP
  have hD : va_D A [] := hD
  refine lv_ishr hx hb dJ0_length_8abf5_9 ?_
  have hf := Option.some.inj hf
  subst hf
  exact rt_i hx hb hr hlocks hK hP hS dJ0_length_8abf5_10

def f_J0_isLatin1_aae02 (x0 : Nat) : Option (Int32) :=
  gd (x0 < strN) ((some 1))
theorem gv_J0_isLatin1_aae02 {own : String} {idx : Nat} (h : Cond.methodLink own idx yJ0_isLatin1_aae02 ∈ lw_g) : GoodIn lw_g (wsV own idx RJ0 yJ0_isLatin1_aae02 (Cond.code yJ0_isLatin1_aae02 cJ0_isLatin1_aae02 1 (some .boolean) :: lw_g)) := gV h w_391 w_392 w_69 w_393
theorem hd_J0_isLatin1_aae02 : yJ0_isLatin1_aae02.cls = RJ0 ∧ yJ0_isLatin1_aae02.cls ≠ "java/lang/invoke/MethodHandle" ∧ yJ0_isLatin1_aae02.cls ≠ "java/lang/invoke/VarHandle" ∧ (parseMethodDescriptor yJ0_isLatin1_aae02.desc).map (fun d => d.parameters.length) = some 0 := by decide +kernel
set_option maxHeartbeats 4000000 in
set_option maxRecDepth 100000 in
theorem c_J0_isLatin1_aae02 (l : Launch) (D : va_G) (cI cJ cZ : ClassId) (en : EnT) (sz : Nat) (x0 : Nat) {z : Int32} (hf : f_J0_isLatin1_aae02 x0 = some z) : Met l yJ0_isLatin1_aae02 (Cond.code yJ0_isLatin1_aae02 cJ0_isLatin1_aae02 1 (some .boolean) :: lw_g) ({ frames := 0, cells := 0, slots := 0, locals := 0 } : Room) (PC D cI cJ cZ en ([.ref (en.1 x0)] : List Value) [] sz) (QI D cI cJ cZ [] z (va_A [] sz)) 0 0 (va_A [] sz) := by
  refine mk_met (Qc := fun A => (QI D cI cJ cZ [] z A)) RJ0 (by decide) rfl (Nat.le_of_ble_eq_true rfl) ?_
  intro p e s m below meth c ls A hx hb hr hml hown hts hlocks hA hK hE hl hD H locs hP hS
  have hl : lv_has ls 1 [(0, .ref (en.1 x0))] := hl
  unfold f_J0_isLatin1_aae02 at hf
  refine va_gets hx hb hE.2.2.2.2.2.2.1 hS hown (hts _ w_384) (fun _ h9 => h9) dJ0_isLatin1_aae02_0 ?_
  refine lv_if_eq (tgt := 17) hx hb dJ0_isLatin1_aae02_3 (by decide) (fun h_1 => ?_) (fun h_1 => ?_)
  · exact absurd h_1 (by decide)
  · skip
    refine lv_aload_n hx hb dJ0_isLatin1_aae02_6 rfl (lv_at hl 0 rfl) ?_
    obtain ⟨hin, hf⟩ := gd_some hf
    refine vk_getf hx hb (hE.1.1 _ hin).2.1 hS hown (hts _ w_1266) (fun _ h9 => h9) dJ0_isLatin1_aae02_7 ?_
    refine lv_if_ne (tgt := 17) hx hb dJ0_isLatin1_aae02_10 (by decide) (fun h_2 => ?_) (fun h_2 => ?_)
    · exact absurd (by decide) h_2
    · skip
      refine lv_iconst (v := 1) hx hb dJ0_isLatin1_aae02_13 (by decide) ?_
      refine lv_goto (tgt := 18) hx hb dJ0_isLatin1_aae02_14 (by decide) ?_
      have hf := Option.some.inj hf
      subst hf
      exact rt_z hx hb hr hlocks hK hP hS (Or.inr rfl) dJ0_isLatin1_aae02_18

def f_J3_checkIndex_8e157 (x0 : Int32) (x1 : Int32) : Option (Int32) :=
  (if x0 < 0 then none else (if x0 < x1 then (some x0) else none))
theorem gs_J3_checkIndex_8e157 {own : String} {idx : Nat} (h : Cond.methodLink own idx yJ3_checkIndex_8e157 ∈ lw_g) : GoodIn lw_g (va_wsS own idx yJ3_checkIndex_8e157 (Cond.code yJ3_checkIndex_8e157 cJ3_checkIndex_8e157 3 (some .int) :: lw_g)) := gS h w_403 w_71 w_404
theorem hd_J3_checkIndex_8e157 : yJ3_checkIndex_8e157.cls ≠ "java/lang/invoke/MethodHandle" ∧ yJ3_checkIndex_8e157.cls ≠ "java/lang/invoke/VarHandle" ∧ (parseMethodDescriptor yJ3_checkIndex_8e157.desc).map (fun d => d.parameters.length) = some 3 := by decide +kernel
set_option maxHeartbeats 4000000 in
set_option maxRecDepth 100000 in
theorem c_J3_checkIndex_8e157 (l : Launch) (D : va_G) (cI cJ cZ : ClassId) (en : EnT) (o_x2 : Option Nat) (sz : Nat) (x0 : Int32) (x1 : Int32) {z : Int32} (hf : f_J3_checkIndex_8e157 x0 x1 = some z) : Met l yJ3_checkIndex_8e157 (Cond.code yJ3_checkIndex_8e157 cJ3_checkIndex_8e157 3 (some .int) :: lw_g) ({ frames := 0, cells := 0, slots := 0, locals := 0 } : Room) (PC D cI cJ cZ en ([.int x0, .int x1, va_rf o_x2] : List Value) [] sz) (QI D cI cJ cZ [] z (va_A [] sz)) 0 0 (va_A [] sz) := by
  refine mk_met (Qc := fun A => (QI D cI cJ cZ [] z A)) RJ3 (by decide) rfl (by cases o_x2 <;> exact Nat.le_of_ble_eq_true rfl) ?_
  intro p e s m below meth c ls A hx hb hr hml hown hts hlocks hA hK hE hl hD H locs hP hS
  have hl : lv_has ls 3 [(0, .int x0), (1, .int x1), (2, va_rf o_x2)] := hl
  unfold f_J3_checkIndex_8e157 at hf
  refine lv_iload_n hx hb dJ3_checkIndex_8e157_0 rfl (lv_at hl 0 rfl) ?_
  refine lv_if_lt (tgt := 9) hx hb dJ3_checkIndex_8e157_1 (by decide) (fun h_1 => ?_) (fun h_1 => ?_)
  · have hf := (if_pos h_1).symm.trans hf
    cases hf
  · have hf := (if_neg h_1).symm.trans hf
    refine lv_iload_n hx hb dJ3_checkIndex_8e157_4 rfl (lv_at hl 0 rfl) ?_
    refine lv_iload_n hx hb dJ3_checkIndex_8e157_5 rfl (lv_at hl 1 rfl) ?_
    refine lv_icmp_lt (tgt := 16) hx hb dJ3_checkIndex_8e157_6 (by decide) (fun h_2 => ?_) (fun h_2 => ?_)
    · have hf := (if_pos h_2).symm.trans hf
      refine lv_iload_n hx hb dJ3_checkIndex_8e157_16 rfl (lv_at hl 0 rfl) ?_
      have hf := Option.some.inj hf
      subst hf
      exact rt_i hx hb hr hlocks hK hP hS dJ3_checkIndex_8e157_17
    · have hf := (if_neg h_2).symm.trans hf
      cases hf

def f_J0_checkIndex_df160 (x0 : Int32) (x1 : Int32) : Option (Unit) :=
  (f_J3_checkIndex_8e157 x0 x1).bind (fun z5 => (some ()))
theorem gs_J0_checkIndex_df160 {own : String} {idx : Nat} (h : Cond.methodLink own idx yJ0_checkIndex_df160 ∈ lw_g) : GoodIn lw_g (va_wsS own idx yJ0_checkIndex_df160 (Cond.code yJ0_checkIndex_df160 cJ0_checkIndex_df160 2 none :: lw_g)) := gS h w_398 w_69 w_399
theorem hd_J0_checkIndex_df160 : yJ0_checkIndex_df160.cls ≠ "java/lang/invoke/MethodHandle" ∧ yJ0_checkIndex_df160.cls ≠ "java/lang/invoke/VarHandle" ∧ (parseMethodDescriptor yJ0_checkIndex_df160.desc).map (fun d => d.parameters.length) = some 2 := by decide +kernel
set_option maxHeartbeats 4000000 in
set_option maxRecDepth 100000 in
theorem c_J0_checkIndex_df160 (l : Launch) (D : va_G) (cI cJ cZ : ClassId) (en : EnT) (sz : Nat) (x0 : Int32) (x1 : Int32) {z : Unit} (hf : f_J0_checkIndex_df160 x0 x1 = some z) : Met l yJ0_checkIndex_df160 (Cond.code yJ0_checkIndex_df160 cJ0_checkIndex_df160 2 none :: lw_g) ({ frames := 1, cells := 0, slots := 0, locals := 22 } : Room) (PC D cI cJ cZ en ([.int x0, .int x1] : List Value) [] sz) (QV D cI cJ cZ [] (va_A [] sz)) 0 0 (va_A [] sz) := by
  refine mk_met (Qc := fun A => (QV D cI cJ cZ [] A)) RJ0 (by decide) rfl (Nat.le_of_ble_eq_true rfl) ?_
  intro p e s m below meth c ls A hx hb hr hml hown hts hlocks hA hK hE hl hD H locs hP hS
  have hl : lv_has ls 2 [(0, .int x0), (1, .int x1)] := hl
  unfold f_J0_checkIndex_df160 at hf
  refine lv_iload_n hx hb dJ0_checkIndex_df160_0 rfl (lv_at hl 0 rfl) ?_
  refine lv_iload_n hx hb dJ0_checkIndex_df160_1 rfl (lv_at hl 1 rfl) ?_
  refine va_gets hx hb hE.2.2.2.2.2.2.2.1 hS hown (hts _ w_400) (fun _ h9 => h9) dJ0_checkIndex_df160_2 ?_
  obtain ⟨z5_1, hz5_1, hf⟩ := bd_some hf
  refine cSi (rest := []) ⟨hx, hb, hml, hown, hts⟩ hE hK hP hD hS hA (c_J3_checkIndex_8e157 l D cI cJ cZ en en.2.2.2.2 H.size x0 x1 hz5_1) (gs_J3_checkIndex_8e157 w_402) hd_J3_checkIndex_8e157 ⟨rfl, rfl⟩ ⟨by decide, by decide⟩ [] trivial rfl trivial  hl rfl (Nat.le_of_ble_eq_true rfl) ⟨Nat.zero_le _, Nat.zero_le _⟩ dJ0_checkIndex_df160_5 (fun H locs hP hD hS => ?_)
  have hP : va_P D vwCl [] H := hP
  have hD : va_D A [] := hD
  refine lv_pop hx hb dJ0_checkIndex_df160_8 rfl ?_
  have hf := Option.some.inj hf
  subst hf
  exact rt_v hx hb hr hlocks hK hP hS dJ0_checkIndex_df160_9

def f_J1_charAt_3b067 (x0 : Nat) (x1 : Int32) : Option (Int32) :=
  gd (x0 < strN) ((f_J0_checkIndex_df160 x1 (Int32.ofNat (strLen.getD x0 0))).bind (fun z3 => gd (ib x1 (strLen.getD x0 0)) (gd (x0 < strN) ((gd ((((Int32.toUInt32 (((strByt.getD x0 []).getD (Int32.toNatClampNeg x1) 0) &&& 255) % 65536).toInt32) : Int32).toUInt32.toUInt16.toUInt32.toInt32 = ((Int32.toUInt32 (((strByt.getD x0 []).getD (Int32.toNatClampNeg x1) 0) &&& 255) % 65536).toInt32)) (some ((Int32.toUInt32 (((strByt.getD x0 []).getD (Int32.toNatClampNeg x1) 0) &&& 255) % 65536).toInt32)))))))
theorem gs_J1_charAt_3b067 {own : String} {idx : Nat} (h : Cond.methodLink own idx yJ1_charAt_3b067 ∈ lw_g) : GoodIn lw_g (va_wsS own idx yJ1_charAt_3b067 (Cond.code yJ1_charAt_3b067 cJ1_charAt_3b067 2 (some .char) :: lw_g)) := gS h w_395 w_70 w_396
theorem hd_J1_charAt_3b067 : yJ1_charAt_3b067.cls ≠ "java/lang/invoke/MethodHandle" ∧ yJ1_charAt_3b067.cls ≠ "java/lang/invoke/VarHandle" ∧ (parseMethodDescriptor yJ1_charAt_3b067.desc).map (fun d => d.parameters.length) = some 2 := by decide +kernel
set_option maxHeartbeats 4000000 in
set_option maxRecDepth 100000 in
theorem c_J1_charAt_3b067 (l : Launch) (D : va_G) (cI cJ cZ : ClassId) (en : EnT) (sz : Nat) (x0 : Nat) (x1 : Int32) {z : Int32} (hf : f_J1_charAt_3b067 x0 x1 = some z) : Met l yJ1_charAt_3b067 (Cond.code yJ1_charAt_3b067 cJ1_charAt_3b067 2 (some .char) :: lw_g) ({ frames := 2, cells := 0, slots := 0, locals := 43 } : Room) (PC D cI cJ cZ en ([.ref (en.2.1 x0), .int x1] : List Value) [] sz) (QI D cI cJ cZ [] z (va_A [] sz)) 0 0 (va_A [] sz) := by
  refine mk_met (Qc := fun A => (QI D cI cJ cZ [] z A)) RJ1 (by decide) rfl (Nat.le_of_ble_eq_true rfl) ?_
  intro p e s m below meth c ls A hx hb hr hml hown hts hlocks hA hK hE hl hD H locs hP hS
  have hl : lv_has ls 2 [(0, .ref (en.2.1 x0)), (1, .int x1)] := hl
  unfold f_J1_charAt_3b067 at hf
  refine lv_iload_n hx hb dJ1_charAt_3b067_0 rfl (lv_at hl 1 rfl) ?_
  refine lv_aload_n hx hb dJ1_charAt_3b067_1 rfl (lv_at hl 0 rfl) ?_
  obtain ⟨hin, hf⟩ := gd_some hf
  refine va_tlen (v := (Int32.ofNat (strLen.getD x0 0))) hx hb (hE.1.1 _ hin).2.2.2 hS rfl dJ1_charAt_3b067_2 ?_
  obtain ⟨z3_1, hz3_1, hf⟩ := bd_some hf
  refine cSv (rest := []) ⟨hx, hb, hml, hown, hts⟩ hE hK hP hD hS hA (c_J0_checkIndex_df160 l D cI cJ cZ en  H.size x1 (Int32.ofNat (strLen.getD x0 0)) hz3_1) (gs_J0_checkIndex_df160 w_397) hd_J0_checkIndex_df160 ⟨rfl, rfl⟩ ⟨by decide, by decide⟩ [] trivial rfl trivial  hl rfl (Nat.le_of_ble_eq_true rfl) ⟨Nat.zero_le _, Nat.zero_le _⟩ dJ1_charAt_3b067_3 (fun H locs hP hD hS => ?_)
  have hP : va_P D vwCl [] H := hP
  have hD : va_D A [] := hD
  refine lv_aload_n hx hb dJ1_charAt_3b067_6 rfl (lv_at hl 0 rfl) ?_
  refine lv_iload_n hx hb dJ1_charAt_3b067_7 rfl (lv_at hl 1 rfl) ?_
  obtain ⟨hin, hf⟩ := gd_some hf
  have hin1 := hin
  obtain ⟨hin, hf⟩ := gd_some hf
  refine va_tb hx hb (hE.1.1 _ hin).2.2.2 hS hin1 rfl dJ1_charAt_3b067_8 ?_
  refine lv_sipush (v := 255) hx hb dJ1_charAt_3b067_9 (by decide) ?_
  refine lv_iand hx hb dJ1_charAt_3b067_12 ?_
  refine lv_i2c (v := (Int32.toUInt32 (((strByt.getD x0 []).getD (Int32.toNatClampNeg x1) 0) &&& 255) % 65536).toInt32) hx hb dJ1_charAt_3b067_13 rfl ?_
  obtain ⟨hin, hf⟩ := gd_some hf
  have hf := Option.some.inj hf
  subst hf
  exact rt_n hx hb hr hlocks hK hP hS (nar_char hin) dJ1_charAt_3b067_14

def f_J0_charAt_5068e (x0 : Nat) (x1 : Int32) : Option (Int32) :=
  gd (x0 < strN) ((f_J0_isLatin1_aae02 x0).bind (fun z1 => (if z1 = 0 then none else gd (x0 < strN) ((f_J1_charAt_3b067 x0 x1).bind (fun z12 => (gd ((z12 : Int32).toUInt32.toUInt16.toUInt32.toInt32 = z12) (some z12)))))))
theorem gv_J0_charAt_5068e {own : String} {idx : Nat} (h : Cond.methodLink own idx yJ0_charAt_5068e ∈ lw_g) : GoodIn lw_g (wsV own idx RJ0 yJ0_charAt_5068e (Cond.code yJ0_charAt_5068e cJ0_charAt_5068e 2 (some .char) :: lw_g)) := gV h w_387 w_388 w_69 w_389
theorem hd_J0_charAt_5068e : yJ0_charAt_5068e.cls = RJ0 ∧ yJ0_charAt_5068e.cls ≠ "java/lang/invoke/MethodHandle" ∧ yJ0_charAt_5068e.cls ≠ "java/lang/invoke/VarHandle" ∧ (parseMethodDescriptor yJ0_charAt_5068e.desc).map (fun d => d.parameters.length) = some 1 := by decide +kernel
set_option maxHeartbeats 4000000 in
set_option maxRecDepth 100000 in
theorem c_J0_charAt_5068e (l : Launch) (D : va_G) (cI cJ cZ : ClassId) (en : EnT) (sz : Nat) (x0 : Nat) (x1 : Int32) {z : Int32} (hf : f_J0_charAt_5068e x0 x1 = some z) : Met l yJ0_charAt_5068e (Cond.code yJ0_charAt_5068e cJ0_charAt_5068e 2 (some .char) :: lw_g) ({ frames := 3, cells := 0, slots := 0, locals := 64 } : Room) (PC D cI cJ cZ en ([.ref (en.1 x0), .int x1] : List Value) [] sz) (QI D cI cJ cZ [] z (va_A [] sz)) 0 0 (va_A [] sz) := by
  refine mk_met (Qc := fun A => (QI D cI cJ cZ [] z A)) RJ0 (by decide) rfl (Nat.le_of_ble_eq_true rfl) ?_
  intro p e s m below meth c ls A hx hb hr hml hown hts hlocks hA hK hE hl hD H locs hP hS
  have hl : lv_has ls 2 [(0, .ref (en.1 x0)), (1, .int x1)] := hl
  unfold f_J0_charAt_5068e at hf
  refine lv_aload_n hx hb dJ0_charAt_5068e_0 rfl (lv_at hl 0 rfl) ?_
  obtain ⟨hin, hf⟩ := gd_some hf
  obtain ⟨z1_1, hz1_1, hf⟩ := bd_some hf
  refine cRi (rest := []) ⟨hx, hb, hml, hown, hts⟩ hE hK hP hD hS hA (c_J0_isLatin1_aae02 l D cI cJ cZ en  H.size x0 hz1_1) (gv_J0_isLatin1_aae02 w_390) hd_J0_isLatin1_aae02 ⟨rfl, rfl⟩ ⟨by decide, by decide⟩ [] trivial rfl trivial (vk_recv hE.1 hin hS)  hl rfl (Nat.le_of_ble_eq_true rfl) ⟨Nat.zero_le _, Nat.zero_le _⟩ dJ0_charAt_5068e_1 (fun H locs hP hD hS => ?_)
  have hP : va_P D vwCl [] H := hP
  have hD : va_D A [] := hD
  refine lv_if_eq (tgt := 16) hx hb dJ0_charAt_5068e_4 (by decide) (fun h_2 => ?_) (fun h_2 => ?_)
  · have hf := (if_pos h_2).symm.trans hf
    cases hf
  · have hf := (if_neg h_2).symm.trans hf
    refine lv_aload_n hx hb dJ0_charAt_5068e_7 rfl (lv_at hl 0 rfl) ?_
    obtain ⟨hin, hf⟩ := gd_some hf
    refine vk_getf hx hb (hE.1.1 _ hin).2.2.1 hS hown (hts _ w_1265) (fun _ h9 => h9) dJ0_charAt_5068e_8 ?_
    refine lv_iload_n hx hb dJ0_charAt_5068e_11 rfl (lv_at hl 1 rfl) ?_
    obtain ⟨z12_3, hz12_3, hf⟩ := bd_some hf
    refine cSi (rest := []) ⟨hx, hb, hml, hown, hts⟩ hE hK hP hD hS hA (c_J1_charAt_3b067 l D cI cJ cZ en  H.size x0 x1 hz12_3) (gs_J1_charAt_3b067 w_394) hd_J1_charAt_3b067 ⟨rfl, rfl⟩ ⟨by decide, by decide⟩ [] trivial rfl trivial  hl rfl (Nat.le_of_ble_eq_true rfl) ⟨Nat.zero_le _, Nat.zero_le _⟩ dJ0_charAt_5068e_12 (fun H locs hP hD hS => ?_)
    have hP : va_P D vwCl [] H := hP
    have hD : va_D A [] := hD
    obtain ⟨hin, hf⟩ := gd_some hf
    have hf := Option.some.inj hf
    subst hf
    exact rt_n hx hb hr hlocks hK hP hS (nar_char hin) dJ0_charAt_5068e_15

def f_X5_byteAt (v_t_text_length : Int32) (v_t_text_bytes : Nat → Int32) (x1 : Int32) : Option (Int32) :=
  (f_X7_byteAt v_t_text_length v_t_text_bytes x1).bind (fun z16 => (some z16))
theorem gv_X5_byteAt {own : String} {idx : Nat} (h : Cond.methodLink own idx yX5_byteAt ∈ lw_g) : GoodIn lw_g (wsV own idx RX5 yX5_byteAt (Cond.code yX5_byteAt cX5_byteAt 2 (some .int) :: lw_g)) := gV h w_354 w_1 w_59 w_355
theorem hd_X5_byteAt : yX5_byteAt.cls = RX5 ∧ yX5_byteAt.cls ≠ "java/lang/invoke/MethodHandle" ∧ yX5_byteAt.cls ≠ "java/lang/invoke/VarHandle" ∧ (parseMethodDescriptor yX5_byteAt.desc).map (fun d => d.parameters.length) = some 1 := by decide +kernel
set_option maxHeartbeats 4000000 in
set_option maxRecDepth 100000 in
theorem c_X5_byteAt (l : Launch) (D : va_G) (cI cJ cZ : ClassId) (en : EnT) (q_t q_t_text q_t_parts q_t_text_bytes : Nat) (sz : Nat) (v_t_sort : Int32) (v_t_start : Int32) (v_t_end : Int32) (v_t_lines : Int32) (v_t_text_length : Int32) (v_t_text_bytes : Nat → Int32) (v_t_parts : Nat → Int32) (x1 : Int32) {z : Int32} (hf : f_X5_byteAt v_t_text_length v_t_text_bytes x1 = some z) : Met l yX5_byteAt (Cond.code yX5_byteAt cX5_byteAt 2 (some .int) :: lw_g) ({ frames := 1, cells := 0, slots := 0, locals := 21 } : Room) (PC D cI cJ cZ en ([.ref q_t, .int x1] : List Value) [(q_t, .inr (5, [.ref q_t_text, .int v_t_sort, .int v_t_start, .int v_t_end, .ref q_t_parts, .int v_t_lines])), (q_t_text, .inr (7, [.ref q_t_text_bytes, .int v_t_text_length])), (q_t_text_bytes, .inl (cI, 200, .inl v_t_text_bytes)), (q_t_parts, .inl (cI, 3, .inl v_t_parts))] sz) (QI D cI cJ cZ [(q_t, .inr (5, [.ref q_t_text, .int v_t_sort, .int v_t_start, .int v_t_end, .ref q_t_parts, .int v_t_lines])), (q_t_text, .inr (7, [.ref q_t_text_bytes, .int v_t_text_length])), (q_t_text_bytes, .inl (cI, 200, .inl v_t_text_bytes)), (q_t_parts, .inl (cI, 3, .inl v_t_parts))] z (va_A [(q_t, .inr (5, [.ref q_t_text, .int v_t_sort, .int v_t_start, .int v_t_end, .ref q_t_parts, .int v_t_lines])), (q_t_text, .inr (7, [.ref q_t_text_bytes, .int v_t_text_length])), (q_t_text_bytes, .inl (cI, 200, .inl v_t_text_bytes)), (q_t_parts, .inl (cI, 3, .inl v_t_parts))] sz)) 0 0 (va_A [(q_t, .inr (5, [.ref q_t_text, .int v_t_sort, .int v_t_start, .int v_t_end, .ref q_t_parts, .int v_t_lines])), (q_t_text, .inr (7, [.ref q_t_text_bytes, .int v_t_text_length])), (q_t_text_bytes, .inl (cI, 200, .inl v_t_text_bytes)), (q_t_parts, .inl (cI, 3, .inl v_t_parts))] sz) := by
  refine mk_met (Qc := fun A => (QI D cI cJ cZ [(q_t, .inr (5, [.ref q_t_text, .int v_t_sort, .int v_t_start, .int v_t_end, .ref q_t_parts, .int v_t_lines])), (q_t_text, .inr (7, [.ref q_t_text_bytes, .int v_t_text_length])), (q_t_text_bytes, .inl (cI, 200, .inl v_t_text_bytes)), (q_t_parts, .inl (cI, 3, .inl v_t_parts))] z A)) RX5 (by decide) rfl (Nat.le_of_ble_eq_true rfl) ?_
  intro p e s m below meth c ls A hx hb hr hml hown hts hlocks hA hK hE hl hD H locs hP hS
  have hl : lv_has ls 2 [(0, .ref q_t), (1, .int x1)] := hl
  unfold f_X5_byteAt at hf
  refine lv_aload_n hx hb dX5_byteAt_0 rfl (lv_at hl 0 rfl) ?_
  refine va_get (D := D) (ci := 5) (v := .ref q_t_text) (C := RX5) (T := TX5) (N := 6) hx hb hts inX5 hown hK hP 0 rfl rfl 0 (by decide) (hts _ w_104) (fun _ h9 => h9) rfl dX5_byteAt_1 ?_
  refine lv_ifnonnull (tgt := 11) hx hb dX5_byteAt_4 (by decide) ?_
  refine lv_aload_n hx hb dX5_byteAt_11 rfl (lv_at hl 0 rfl) ?_
  refine va_get (D := D) (ci := 5) (v := .ref q_t_text) (C := RX5) (T := TX5) (N := 6) hx hb hts inX5 hown hK hP 0 rfl rfl 0 (by decide) (hts _ w_104) (fun _ h9 => h9) rfl dX5_byteAt_12 ?_
  refine lv_iload_n hx hb dX5_byteAt_15 rfl (lv_at hl 1 rfl) ?_
  obtain ⟨z16_1, hz16_1, hf⟩ := bd_some hf
  refine cVi (rest := []) ⟨hx, hb, hml, hown, hts⟩ hE hK hP hD hS hA (c_X7_byteAt l D cI cJ cZ en q_t_text q_t_text_bytes H.size v_t_text_length v_t_text_bytes x1 hz16_1) (gv_X7_byteAt w_356) hd_X7_byteAt ⟨rfl, rfl⟩ ⟨by decide, by decide⟩ [1, 2] (And.intro rfl (And.intro rfl trivial)) rfl (And.intro rfl (And.intro rfl trivial)) 7 rfl rfl 1 rfl  hl rfl (Nat.le_of_ble_eq_true rfl) ⟨Nat.zero_le _, Nat.zero_le _⟩ dX5_byteAt_16 (fun H locs hP hD hS => ?_)
  have hP : va_P D vwCl [(q_t, .inr (5, [.ref q_t_text, .int v_t_sort, .int v_t_start, .int v_t_end, .ref q_t_parts, .int v_t_lines])), (q_t_text, .inr (7, [.ref q_t_text_bytes, .int v_t_text_length])), (q_t_text_bytes, .inl (cI, 200, .inl v_t_text_bytes)), (q_t_parts, .inl (cI, 3, .inl v_t_parts))] H := hP
  have hD : va_D A [(q_t, .inr (5, [.ref q_t_text, .int v_t_sort, .int v_t_start, .int v_t_end, .ref q_t_parts, .int v_t_lines])), (q_t_text, .inr (7, [.ref q_t_text_bytes, .int v_t_text_length])), (q_t_text_bytes, .inl (cI, 200, .inl v_t_text_bytes)), (q_t_parts, .inl (cI, 3, .inl v_t_parts))] := hD
  have hf := Option.some.inj hf
  subst hf
  exact rt_i hx hb hr hlocks hK hP hS dX5_byteAt_19

def f_X5_sortOf_J35 (x0 : Int32) : Option (Int32) :=
  (if x0 = 59 then (some 3) else (some 4))
def f_X5_sortOf_J21 (x0 : Int32) : Option (Int32) :=
  (if x0 < 48 then (f_X5_sortOf_J35 x0) else (if 57 < x0 then (f_X5_sortOf_J35 x0) else (some 2)))
def f_X5_sortOf (x0 : Int32) : Option (Int32) :=
  (if x0 = (-1) then (some 0) else (if x0 < 97 then (f_X5_sortOf_J21 x0) else (if 122 < x0 then (f_X5_sortOf_J21 x0) else (some 1))))
theorem gs_X5_sortOf {own : String} {idx : Nat} (h : Cond.methodLink own idx yX5_sortOf ∈ lw_g) : GoodIn lw_g (va_wsS own idx yX5_sortOf (Cond.code yX5_sortOf cX5_sortOf 1 (some .int) :: lw_g)) := gS h w_361 w_59 w_362
theorem hd_X5_sortOf : yX5_sortOf.cls ≠ "java/lang/invoke/MethodHandle" ∧ yX5_sortOf.cls ≠ "java/lang/invoke/VarHandle" ∧ (parseMethodDescriptor yX5_sortOf.desc).map (fun d => d.parameters.length) = some 1 := by decide +kernel
set_option maxHeartbeats 4000000 in
set_option maxRecDepth 100000 in
theorem c_X5_sortOf (l : Launch) (D : va_G) (cI cJ cZ : ClassId) (en : EnT) (sz : Nat) (x0 : Int32) {z : Int32} (hf : f_X5_sortOf x0 = some z) : Met l yX5_sortOf (Cond.code yX5_sortOf cX5_sortOf 1 (some .int) :: lw_g) ({ frames := 0, cells := 0, slots := 0, locals := 0 } : Room) (PC D cI cJ cZ en ([.int x0] : List Value) [] sz) (QI D cI cJ cZ [] z (va_A [] sz)) 0 0 (va_A [] sz) := by
  refine mk_met (Qc := fun A => (QI D cI cJ cZ [] z A)) RX5 (by decide) rfl (Nat.le_of_ble_eq_true rfl) ?_
  intro p e s m below meth c ls A hx hb hr hml hown hts hlocks hA hK hE hl hD H locs hP hS
  have hl : lv_has ls 1 [(0, .int x0)] := hl
  unfold f_X5_sortOf at hf
  refine lv_iload_n hx hb dX5_sortOf_0 rfl (lv_at hl 0 rfl) ?_
  refine lv_iconst (v := (-1)) hx hb dX5_sortOf_1 (by decide) ?_
  refine lv_icmp_ne (tgt := 7) hx hb dX5_sortOf_2 (by decide) (fun h_1 => ?_) (fun h_1 => ?_)
  · have hf := (if_neg h_1).symm.trans hf
    refine lv_iload_n hx hb dX5_sortOf_7 rfl (lv_at hl 0 rfl) ?_
    refine lv_bipush (v := 97) hx hb dX5_sortOf_8 (by decide) ?_
    have J21_2 : ∀ (_ : Unit), f_X5_sortOf_J21 x0 = some z → ∀ (H : Heap) (locs : List Loc) (ls : Array Slot), va_P D vwCl [] H → va_D A [] → va_S A s.heap H locs → lv_has ls 1 [(0, .int x0)] → W p l e ({ frames := 0, cells := 0, slots := 0, locals := 0 } : Room) s m ([.int x0] : List Value).toArray below meth c H locs 0 0 (MQ below (QI D cI cJ cZ [] z A) ([.int x0] : List Value).toArray s 0 0 A) (F0 m 21 ls []) := by
      intro _ hf H locs ls hP hD hS hl
      unfold f_X5_sortOf_J21 at hf
      refine lv_iload_n hx hb dX5_sortOf_21 rfl (lv_at hl 0 rfl) ?_
      refine lv_bipush (v := 48) hx hb dX5_sortOf_22 (by decide) ?_
      have J35_3 : ∀ (_ : Unit), f_X5_sortOf_J35 x0 = some z → ∀ (H : Heap) (locs : List Loc) (ls : Array Slot), va_P D vwCl [] H → va_D A [] → va_S A s.heap H locs → lv_has ls 1 [(0, .int x0)] → W p l e ({ frames := 0, cells := 0, slots := 0, locals := 0 } : Room) s m ([.int x0] : List Value).toArray below meth c H locs 0 0 (MQ below (QI D cI cJ cZ [] z A) ([.int x0] : List Value).toArray s 0 0 A) (F0 m 35 ls []) := by
        intro _ hf H locs ls hP hD hS hl
        unfold f_X5_sortOf_J35 at hf
        refine lv_iload_n hx hb dX5_sortOf_35 rfl (lv_at hl 0 rfl) ?_
        refine lv_bipush (v := 59) hx hb dX5_sortOf_36 (by decide) ?_
        refine lv_icmp_ne (tgt := 45) hx hb dX5_sortOf_38 (by decide) (fun h_4 => ?_) (fun h_4 => ?_)
        · have hf := (if_neg h_4).symm.trans hf
          refine lv_iconst (v := 4) hx hb dX5_sortOf_45 (by decide) ?_
          have hf := Option.some.inj hf
          subst hf
          exact rt_i hx hb hr hlocks hK hP hS dX5_sortOf_46
        · have hf := (if_pos h_4).symm.trans hf
          refine lv_iconst (v := 3) hx hb dX5_sortOf_41 (by decide) ?_
          refine lv_goto (tgt := 46) hx hb dX5_sortOf_42 (by decide) ?_
          have hf := Option.some.inj hf
          subst hf
          exact rt_i hx hb hr hlocks hK hP hS dX5_sortOf_46
      refine lv_icmp_lt (tgt := 35) hx hb dX5_sortOf_24 (by decide) (fun h_5 => ?_) (fun h_5 => ?_)
      · have hf := (if_pos h_5).symm.trans hf
        exact J35_3 () hf _ _ _ hP hD hS (lv_sub hl [0] rfl)
      · have hf := (if_neg h_5).symm.trans hf
        refine lv_iload_n hx hb dX5_sortOf_27 rfl (lv_at hl 0 rfl) ?_
        refine lv_bipush (v := 57) hx hb dX5_sortOf_28 (by decide) ?_
        refine lv_icmp_gt (tgt := 35) hx hb dX5_sortOf_30 (by decide) (fun h_6 => ?_) (fun h_6 => ?_)
        · have hf := (if_pos h_6).symm.trans hf
          exact J35_3 () hf _ _ _ hP hD hS (lv_sub hl [0] rfl)
        · have hf := (if_neg h_6).symm.trans hf
          refine lv_iconst (v := 2) hx hb dX5_sortOf_33 (by decide) ?_
          have hf := Option.some.inj hf
          subst hf
          exact rt_i hx hb hr hlocks hK hP hS dX5_sortOf_34
    refine lv_icmp_lt (tgt := 21) hx hb dX5_sortOf_10 (by decide) (fun h_7 => ?_) (fun h_7 => ?_)
    · have hf := (if_pos h_7).symm.trans hf
      exact J21_2 () hf _ _ _ hP hD hS (lv_sub hl [0] rfl)
    · have hf := (if_neg h_7).symm.trans hf
      refine lv_iload_n hx hb dX5_sortOf_13 rfl (lv_at hl 0 rfl) ?_
      refine lv_bipush (v := 122) hx hb dX5_sortOf_14 (by decide) ?_
      refine lv_icmp_gt (tgt := 21) hx hb dX5_sortOf_16 (by decide) (fun h_8 => ?_) (fun h_8 => ?_)
      · have hf := (if_pos h_8).symm.trans hf
        exact J21_2 () hf _ _ _ hP hD hS (lv_sub hl [0] rfl)
      · have hf := (if_neg h_8).symm.trans hf
        refine lv_iconst (v := 1) hx hb dX5_sortOf_19 (by decide) ?_
        have hf := Option.some.inj hf
        subst hf
        exact rt_i hx hb hr hlocks hK hP hS dX5_sortOf_20
  · have hf := (if_pos h_1).symm.trans hf
    refine lv_iconst (v := 0) hx hb dX5_sortOf_5 (by decide) ?_
    have hf := Option.some.inj hf
    subst hf
    exact rt_i hx hb hr hlocks hK hP hS dX5_sortOf_6

def f_X5_nextToken_L106 (v_t_sort : Int32) (v_t_start : Int32) (v_t_text_length : Int32) (v_t_text_bytes : Nat → Int32) : Nat → (Int32) → (Int32) → Option (Int32 × Int32 × Int32)
  | 0, _, _ => none
  | n + 1, x1, v_t_end => (if 200 ≤ x1 then (some (v_t_sort, v_t_start, v_t_end)) else (f_X5_byteAt v_t_text_length v_t_text_bytes v_t_end).bind (fun z118 => (f_X5_sortOf z118).bind (fun z121 => (if z121 = v_t_sort then (f_X5_nextToken_L106 v_t_sort v_t_start v_t_text_length v_t_text_bytes n (x1 + 1) (v_t_end + 1)) else (some (v_t_sort, v_t_start, v_t_end))))))
def f_X5_nextToken_J104 (v_t_sort : Int32) (v_t_start : Int32) (v_t_end : Int32) (v_t_text_length : Int32) (v_t_text_bytes : Nat → Int32) : Option (Int32 × Int32 × Int32) :=
  (f_X5_nextToken_L106 v_t_sort v_t_start v_t_text_length v_t_text_bytes FU 0 v_t_end)
def f_X5_nextToken_J46 (v_t_start : Int32) (v_t_text_length : Int32) (v_t_text_bytes : Nat → Int32) : Option (Int32 × Int32 × Int32) :=
  (f_X5_byteAt v_t_text_length v_t_text_bytes v_t_start).bind (fun z52 => (f_X5_sortOf z52).bind (fun z55 => (if z55 = 0 then (some (z55, v_t_start, v_t_start)) else (if z55 = 1 then (f_X5_nextToken_J104 z55 v_t_start (v_t_start + 1) v_t_text_length v_t_text_bytes) else (if z55 = 2 then (f_X5_nextToken_J104 z55 v_t_start (v_t_start + 1) v_t_text_length v_t_text_bytes) else (some (z55, v_t_start, (v_t_start + 1))))))))
def f_X5_nextToken_L10 (v_t_text_length : Int32) (v_t_text_bytes : Nat → Int32) : Nat → (Int32) → (Int32) → Option (Int32 × Int32 × Int32)
  | 0, _, _ => none
  | n + 1, x1, v_t_start => (if 200 ≤ x1 then (f_X5_nextToken_J46 v_t_start v_t_text_length v_t_text_bytes) else (f_X5_byteAt v_t_text_length v_t_text_bytes v_t_start).bind (fun z22 => (if z22 = 32 then (f_X5_nextToken_L10 v_t_text_length v_t_text_bytes n (x1 + 1) (v_t_start + 1)) else (f_X5_nextToken_J46 v_t_start v_t_text_length v_t_text_bytes))))
def f_X5_nextToken (v_t_sort : Int32) (v_t_start : Int32) (v_t_end : Int32) (v_t_text_length : Int32) (v_t_text_bytes : Nat → Int32) : Option (Int32 × Int32 × Int32) :=
  (f_X5_nextToken_L10 v_t_text_length v_t_text_bytes FU 0 v_t_end)
theorem gv_X5_nextToken {own : String} {idx : Nat} (h : Cond.methodLink own idx yX5_nextToken ∈ lw_g) : GoodIn lw_g (wsV own idx RX5 yX5_nextToken (Cond.code yX5_nextToken cX5_nextToken 2 none :: lw_g)) := gV h w_350 w_0 w_59 w_351
theorem hd_X5_nextToken : yX5_nextToken.cls = RX5 ∧ yX5_nextToken.cls ≠ "java/lang/invoke/MethodHandle" ∧ yX5_nextToken.cls ≠ "java/lang/invoke/VarHandle" ∧ (parseMethodDescriptor yX5_nextToken.desc).map (fun d => d.parameters.length) = some 0 := by decide +kernel
set_option maxHeartbeats 4000000 in
set_option maxRecDepth 100000 in
theorem c_X5_nextToken (l : Launch) (D : va_G) (cI cJ cZ : ClassId) (en : EnT) (q_t q_t_text q_t_parts q_t_text_bytes : Nat) (sz : Nat) (v_t_sort : Int32) (v_t_start : Int32) (v_t_end : Int32) (v_t_lines : Int32) (v_t_text_length : Int32) (v_t_text_bytes : Nat → Int32) (v_t_parts : Nat → Int32) {z : Int32 × Int32 × Int32} (hf : f_X5_nextToken v_t_sort v_t_start v_t_end v_t_text_length v_t_text_bytes = some z) : Met l yX5_nextToken (Cond.code yX5_nextToken cX5_nextToken 2 none :: lw_g) ({ frames := 2, cells := 0, slots := 0, locals := 42 } : Room) (PC D cI cJ cZ en ([.ref q_t] : List Value) [(q_t, .inr (5, [.ref q_t_text, .int v_t_sort, .int v_t_start, .int v_t_end, .ref q_t_parts, .int v_t_lines])), (q_t_text, .inr (7, [.ref q_t_text_bytes, .int v_t_text_length])), (q_t_text_bytes, .inl (cI, 200, .inl v_t_text_bytes)), (q_t_parts, .inl (cI, 3, .inl v_t_parts))] sz) (QV D cI cJ cZ [(q_t, .inr (5, [.ref q_t_text, .int z.1, .int z.2.1, .int z.2.2, .ref q_t_parts, .int v_t_lines])), (q_t_text, .inr (7, [.ref q_t_text_bytes, .int v_t_text_length])), (q_t_text_bytes, .inl (cI, 200, .inl v_t_text_bytes)), (q_t_parts, .inl (cI, 3, .inl v_t_parts))] (va_A [(q_t, .inr (5, [.ref q_t_text, .int v_t_sort, .int v_t_start, .int v_t_end, .ref q_t_parts, .int v_t_lines])), (q_t_text, .inr (7, [.ref q_t_text_bytes, .int v_t_text_length])), (q_t_text_bytes, .inl (cI, 200, .inl v_t_text_bytes)), (q_t_parts, .inl (cI, 3, .inl v_t_parts))] sz)) 0 0 (va_A [(q_t, .inr (5, [.ref q_t_text, .int v_t_sort, .int v_t_start, .int v_t_end, .ref q_t_parts, .int v_t_lines])), (q_t_text, .inr (7, [.ref q_t_text_bytes, .int v_t_text_length])), (q_t_text_bytes, .inl (cI, 200, .inl v_t_text_bytes)), (q_t_parts, .inl (cI, 3, .inl v_t_parts))] sz) := by
  refine mk_met (Qc := fun A => (QV D cI cJ cZ [(q_t, .inr (5, [.ref q_t_text, .int z.1, .int z.2.1, .int z.2.2, .ref q_t_parts, .int v_t_lines])), (q_t_text, .inr (7, [.ref q_t_text_bytes, .int v_t_text_length])), (q_t_text_bytes, .inl (cI, 200, .inl v_t_text_bytes)), (q_t_parts, .inl (cI, 3, .inl v_t_parts))] A)) RX5 (by decide) rfl (Nat.le_of_ble_eq_true rfl) ?_
  intro p e s m below meth c ls A hx hb hr hml hown hts hlocks hA hK hE hl hD H locs hP hS
  have hl : lv_has ls 2 [(0, .ref q_t)] := hl
  unfold f_X5_nextToken at hf
  refine lv_aload_n hx hb dX5_nextToken_0 rfl (lv_at hl 0 rfl) ?_
  refine lv_aload_n hx hb dX5_nextToken_1 rfl (lv_at hl 0 rfl) ?_
  refine va_get (D := D) (ci := 5) (v := .int v_t_end) (C := RX5) (T := TX5) (N := 6) hx hb hts inX5 hown hK hP 0 rfl rfl 3 (by decide) (hts _ w_107) (fun _ h9 => h9) rfl dX5_nextToken_2 ?_
  refine va_put (D := D) (ci := 5) (v := .int v_t_end) (ty := .int) (C := RX5) (T := TX5) (N := 6) hx hb hts inX5 tyX5 tyX5_ok nmX5 hown hK hP hD hS 0 rfl rfl 2 (by decide) (hts _ w_106) (fun _ h9 => h9) rfl (by decide +kernel) rfl rfl (Nat.le_of_ble_eq_true rfl) dX5_nextToken_5 (fun H locs hP hD hS => ?_)
  have hP : va_P D vwCl [(q_t, .inr (5, [.ref q_t_text, .int v_t_sort, .int v_t_end, .int v_t_end, .ref q_t_parts, .int v_t_lines])), (q_t_text, .inr (7, [.ref q_t_text_bytes, .int v_t_text_length])), (q_t_text_bytes, .inl (cI, 200, .inl v_t_text_bytes)), (q_t_parts, .inl (cI, 3, .inl v_t_parts))] H := hP
  have hD : va_D A [(q_t, .inr (5, [.ref q_t_text, .int v_t_sort, .int v_t_end, .int v_t_end, .ref q_t_parts, .int v_t_lines])), (q_t_text, .inr (7, [.ref q_t_text_bytes, .int v_t_text_length])), (q_t_text_bytes, .inl (cI, 200, .inl v_t_text_bytes)), (q_t_parts, .inl (cI, 3, .inl v_t_parts))] := hD
  refine lv_iconst (v := 0) hx hb dX5_nextToken_8 (by decide) ?_
  refine lv_istore_n (lv' := [(1, .int 0), (0, .ref q_t)]) hx hb dX5_nextToken_9 rfl hl (by decide) rfl (fun ls hl => ?_)
  have L10_3 : ∀ (n_5 : Nat) (x1_1 : Int32) (v_t_start_2 : Int32), f_X5_nextToken_L10 v_t_text_length v_t_text_bytes n_5 x1_1 v_t_start_2 = some z → ∀ (H : Heap) (locs : List Loc) (ls : Array Slot), va_P D vwCl [(q_t, .inr (5, [.ref q_t_text, .int v_t_sort, .int v_t_start_2, .int v_t_end, .ref q_t_parts, .int v_t_lines])), (q_t_text, .inr (7, [.ref q_t_text_bytes, .int v_t_text_length])), (q_t_text_bytes, .inl (cI, 200, .inl v_t_text_bytes)), (q_t_parts, .inl (cI, 3, .inl v_t_parts))] H → va_D A [(q_t, .inr (5, [.ref q_t_text, .int v_t_sort, .int v_t_start_2, .int v_t_end, .ref q_t_parts, .int v_t_lines])), (q_t_text, .inr (7, [.ref q_t_text_bytes, .int v_t_text_length])), (q_t_text_bytes, .inl (cI, 200, .inl v_t_text_bytes)), (q_t_parts, .inl (cI, 3, .inl v_t_parts))] → va_S A s.heap H locs → lv_has ls 2 [(0, .ref q_t), (1, .int x1_1)] → W p l e ({ frames := 2, cells := 0, slots := 0, locals := 42 } : Room) s m ([.ref q_t] : List Value).toArray below meth c H locs 0 0 (MQ below (QV D cI cJ cZ [(q_t, .inr (5, [.ref q_t_text, .int z.1, .int z.2.1, .int z.2.2, .ref q_t_parts, .int v_t_lines])), (q_t_text, .inr (7, [.ref q_t_text_bytes, .int v_t_text_length])), (q_t_text_bytes, .inl (cI, 200, .inl v_t_text_bytes)), (q_t_parts, .inl (cI, 3, .inl v_t_parts))] A) ([.ref q_t] : List Value).toArray s 0 0 A) (F0 m 10 ls []) := by
    intro n_5
    induction n_5 with
    | zero =>
      intro x1_1 v_t_start_2 hf
      cases hf
    | succ n_5 ih_4 =>
      intro x1_1 v_t_start_2 hf H locs ls hP hD hS hl
      rw [f_X5_nextToken_L10] at hf
      refine lv_iload_n hx hb dX5_nextToken_10 rfl (lv_at hl 1 rfl) ?_
      refine lv_sipush (v := 200) hx hb dX5_nextToken_11 (by decide) ?_
      have J46_6 : ∀ (_ : Unit), f_X5_nextToken_J46 v_t_start_2 v_t_text_length v_t_text_bytes = some z → ∀ (H : Heap) (locs : List Loc) (ls : Array Slot), va_P D vwCl [(q_t, .inr (5, [.ref q_t_text, .int v_t_sort, .int v_t_start_2, .int v_t_end, .ref q_t_parts, .int v_t_lines])), (q_t_text, .inr (7, [.ref q_t_text_bytes, .int v_t_text_length])), (q_t_text_bytes, .inl (cI, 200, .inl v_t_text_bytes)), (q_t_parts, .inl (cI, 3, .inl v_t_parts))] H → va_D A [(q_t, .inr (5, [.ref q_t_text, .int v_t_sort, .int v_t_start_2, .int v_t_end, .ref q_t_parts, .int v_t_lines])), (q_t_text, .inr (7, [.ref q_t_text_bytes, .int v_t_text_length])), (q_t_text_bytes, .inl (cI, 200, .inl v_t_text_bytes)), (q_t_parts, .inl (cI, 3, .inl v_t_parts))] → va_S A s.heap H locs → lv_has ls 2 [(0, .ref q_t)] → W p l e ({ frames := 2, cells := 0, slots := 0, locals := 42 } : Room) s m ([.ref q_t] : List Value).toArray below meth c H locs 0 0 (MQ below (QV D cI cJ cZ [(q_t, .inr (5, [.ref q_t_text, .int z.1, .int z.2.1, .int z.2.2, .ref q_t_parts, .int v_t_lines])), (q_t_text, .inr (7, [.ref q_t_text_bytes, .int v_t_text_length])), (q_t_text_bytes, .inl (cI, 200, .inl v_t_text_bytes)), (q_t_parts, .inl (cI, 3, .inl v_t_parts))] A) ([.ref q_t] : List Value).toArray s 0 0 A) (F0 m 46 ls []) := by
        intro _ hf H locs ls hP hD hS hl
        unfold f_X5_nextToken_J46 at hf
        refine lv_aload_n hx hb dX5_nextToken_46 rfl (lv_at hl 0 rfl) ?_
        refine lv_aload_n hx hb dX5_nextToken_47 rfl (lv_at hl 0 rfl) ?_
        refine lv_aload_n hx hb dX5_nextToken_48 rfl (lv_at hl 0 rfl) ?_
        refine va_get (D := D) (ci := 5) (v := .int v_t_start_2) (C := RX5) (T := TX5) (N := 6) hx hb hts inX5 hown hK hP 0 rfl rfl 2 (by decide) (hts _ w_106) (fun _ h9 => h9) rfl dX5_nextToken_49 ?_
        obtain ⟨z52_7, hz52_7, hf⟩ := bd_some hf
        refine cVi (rest := [.ref q_t]) ⟨hx, hb, hml, hown, hts⟩ hE hK hP hD hS hA (c_X5_byteAt l D cI cJ cZ en q_t q_t_text q_t_parts q_t_text_bytes H.size v_t_sort v_t_start_2 v_t_end v_t_lines v_t_text_length v_t_text_bytes v_t_parts v_t_start_2 hz52_7) (gv_X5_byteAt w_352) hd_X5_byteAt ⟨rfl, rfl⟩ ⟨by decide, by decide⟩ [0, 1, 2, 3] (And.intro rfl (And.intro rfl (And.intro rfl (And.intro rfl trivial)))) rfl (And.intro rfl (And.intro rfl (And.intro rfl (And.intro rfl trivial)))) 5 rfl rfl 0 rfl  hl rfl (Nat.le_of_ble_eq_true rfl) ⟨Nat.zero_le _, Nat.zero_le _⟩ dX5_nextToken_52 (fun H locs hP hD hS => ?_)
        have hP : va_P D vwCl [(q_t, .inr (5, [.ref q_t_text, .int v_t_sort, .int v_t_start_2, .int v_t_end, .ref q_t_parts, .int v_t_lines])), (q_t_text, .inr (7, [.ref q_t_text_bytes, .int v_t_text_length])), (q_t_text_bytes, .inl (cI, 200, .inl v_t_text_bytes)), (q_t_parts, .inl (cI, 3, .inl v_t_parts))] H := hP
        have hD : va_D A [(q_t, .inr (5, [.ref q_t_text, .int v_t_sort, .int v_t_start_2, .int v_t_end, .ref q_t_parts, .int v_t_lines])), (q_t_text, .inr (7, [.ref q_t_text_bytes, .int v_t_text_length])), (q_t_text_bytes, .inl (cI, 200, .inl v_t_text_bytes)), (q_t_parts, .inl (cI, 3, .inl v_t_parts))] := hD
        obtain ⟨z55_8, hz55_8, hf⟩ := bd_some hf
        refine cSi (rest := [.ref q_t]) ⟨hx, hb, hml, hown, hts⟩ hE hK hP hD hS hA (c_X5_sortOf l D cI cJ cZ en  H.size z52_7 hz55_8) (gs_X5_sortOf w_360) hd_X5_sortOf ⟨rfl, rfl⟩ ⟨by decide, by decide⟩ [] trivial rfl trivial  hl rfl (Nat.le_of_ble_eq_true rfl) ⟨Nat.zero_le _, Nat.zero_le _⟩ dX5_nextToken_55 (fun H locs hP hD hS => ?_)
        have hP : va_P D vwCl [(q_t, .inr (5, [.ref q_t_text, .int v_t_sort, .int v_t_start_2, .int v_t_end, .ref q_t_parts, .int v_t_lines])), (q_t_text, .inr (7, [.ref q_t_text_bytes, .int v_t_text_length])), (q_t_text_bytes, .inl (cI, 200, .inl v_t_text_bytes)), (q_t_parts, .inl (cI, 3, .inl v_t_parts))] H := hP
        have hD : va_D A [(q_t, .inr (5, [.ref q_t_text, .int v_t_sort, .int v_t_start_2, .int v_t_end, .ref q_t_parts, .int v_t_lines])), (q_t_text, .inr (7, [.ref q_t_text_bytes, .int v_t_text_length])), (q_t_text_bytes, .inl (cI, 200, .inl v_t_text_bytes)), (q_t_parts, .inl (cI, 3, .inl v_t_parts))] := hD
        refine va_put (D := D) (ci := 5) (v := .int z55_8) (ty := .int) (C := RX5) (T := TX5) (N := 6) hx hb hts inX5 tyX5 tyX5_ok nmX5 hown hK hP hD hS 0 rfl rfl 1 (by decide) (hts _ w_105) (fun _ h9 => h9) rfl (by decide +kernel) rfl rfl (Nat.le_of_ble_eq_true rfl) dX5_nextToken_58 (fun H locs hP hD hS => ?_)
        have hP : va_P D vwCl [(q_t, .inr (5, [.ref q_t_text, .int z55_8, .int v_t_start_2, .int v_t_end, .ref q_t_parts, .int v_t_lines])), (q_t_text, .inr (7, [.ref q_t_text_bytes, .int v_t_text_length])), (q_t_text_bytes, .inl (cI, 200, .inl v_t_text_bytes)), (q_t_parts, .inl (cI, 3, .inl v_t_parts))] H := hP
        have hD : va_D A [(q_t, .inr (5, [.ref q_t_text, .int z55_8, .int v_t_start_2, .int v_t_end, .ref q_t_parts, .int v_t_lines])), (q_t_text, .inr (7, [.ref q_t_text_bytes, .int v_t_text_length])), (q_t_text_bytes, .inl (cI, 200, .inl v_t_text_bytes)), (q_t_parts, .inl (cI, 3, .inl v_t_parts))] := hD
        refine lv_aload_n hx hb dX5_nextToken_61 rfl (lv_at hl 0 rfl) ?_
        refine lv_aload_n hx hb dX5_nextToken_62 rfl (lv_at hl 0 rfl) ?_
        refine va_get (D := D) (ci := 5) (v := .int v_t_start_2) (C := RX5) (T := TX5) (N := 6) hx hb hts inX5 hown hK hP 0 rfl rfl 2 (by decide) (hts _ w_106) (fun _ h9 => h9) rfl dX5_nextToken_63 ?_
        refine va_put (D := D) (ci := 5) (v := .int v_t_start_2) (ty := .int) (C := RX5) (T := TX5) (N := 6) hx hb hts inX5 tyX5 tyX5_ok nmX5 hown hK hP hD hS 0 rfl rfl 3 (by decide) (hts _ w_107) (fun _ h9 => h9) rfl (by decide +kernel) rfl rfl (Nat.le_of_ble_eq_true rfl) dX5_nextToken_66 (fun H locs hP hD hS => ?_)
        have hP : va_P D vwCl [(q_t, .inr (5, [.ref q_t_text, .int z55_8, .int v_t_start_2, .int v_t_start_2, .ref q_t_parts, .int v_t_lines])), (q_t_text, .inr (7, [.ref q_t_text_bytes, .int v_t_text_length])), (q_t_text_bytes, .inl (cI, 200, .inl v_t_text_bytes)), (q_t_parts, .inl (cI, 3, .inl v_t_parts))] H := hP
        have hD : va_D A [(q_t, .inr (5, [.ref q_t_text, .int z55_8, .int v_t_start_2, .int v_t_start_2, .ref q_t_parts, .int v_t_lines])), (q_t_text, .inr (7, [.ref q_t_text_bytes, .int v_t_text_length])), (q_t_text_bytes, .inl (cI, 200, .inl v_t_text_bytes)), (q_t_parts, .inl (cI, 3, .inl v_t_parts))] := hD
        refine lv_aload_n hx hb dX5_nextToken_69 rfl (lv_at hl 0 rfl) ?_
        refine va_get (D := D) (ci := 5) (v := .int z55_8) (C := RX5) (T := TX5) (N := 6) hx hb hts inX5 hown hK hP 0 rfl rfl 1 (by decide) (hts _ w_105) (fun _ h9 => h9) rfl dX5_nextToken_70 ?_
        refine lv_if_ne (tgt := 77) hx hb dX5_nextToken_73 (by decide) (fun h_9 => ?_) (fun h_9 => ?_)
        · have hf := (if_neg h_9).symm.trans hf
          refine lv_aload_n hx hb dX5_nextToken_77 rfl (lv_at hl 0 rfl) ?_
          refine lv_dup hx hb dX5_nextToken_78 rfl ?_
          refine va_get (D := D) (ci := 5) (v := .int v_t_start_2) (C := RX5) (T := TX5) (N := 6) hx hb hts inX5 hown hK hP 0 rfl rfl 3 (by decide) (hts _ w_107) (fun _ h9 => h9) rfl dX5_nextToken_79 ?_
          refine lv_iconst (v := 1) hx hb dX5_nextToken_82 (by decide) ?_
          refine lv_iadd hx hb dX5_nextToken_83 ?_
          refine va_put (D := D) (ci := 5) (v := .int (v_t_start_2 + 1)) (ty := .int) (C := RX5) (T := TX5) (N := 6) hx hb hts inX5 tyX5 tyX5_ok nmX5 hown hK hP hD hS 0 rfl rfl 3 (by decide) (hts _ w_107) (fun _ h9 => h9) rfl (by decide +kernel) rfl rfl (Nat.le_of_ble_eq_true rfl) dX5_nextToken_84 (fun H locs hP hD hS => ?_)
          have hP : va_P D vwCl [(q_t, .inr (5, [.ref q_t_text, .int z55_8, .int v_t_start_2, .int (v_t_start_2 + 1), .ref q_t_parts, .int v_t_lines])), (q_t_text, .inr (7, [.ref q_t_text_bytes, .int v_t_text_length])), (q_t_text_bytes, .inl (cI, 200, .inl v_t_text_bytes)), (q_t_parts, .inl (cI, 3, .inl v_t_parts))] H := hP
          have hD : va_D A [(q_t, .inr (5, [.ref q_t_text, .int z55_8, .int v_t_start_2, .int (v_t_start_2 + 1), .ref q_t_parts, .int v_t_lines])), (q_t_text, .inr (7, [.ref q_t_text_bytes, .int v_t_text_length])), (q_t_text_bytes, .inl (cI, 200, .inl v_t_text_bytes)), (q_t_parts, .inl (cI, 3, .inl v_t_parts))] := hD
          refine lv_aload_n hx hb dX5_nextToken_87 rfl (lv_at hl 0 rfl) ?_
          refine va_get (D := D) (ci := 5) (v := .int z55_8) (C := RX5) (T := TX5) (N := 6) hx hb hts inX5 hown hK hP 0 rfl rfl 1 (by decide) (hts _ w_105) (fun _ h9 => h9) rfl dX5_nextToken_88 ?_
          refine lv_iconst (v := 1) hx hb dX5_nextToken_91 (by decide) ?_
          have J104_10 : ∀ (_ : Unit), f_X5_nextToken_J104 z55_8 v_t_start_2 (v_t_start_2 + 1) v_t_text_length v_t_text_bytes = some z → ∀ (H : Heap) (locs : List Loc) (ls : Array Slot), va_P D vwCl [(q_t, .inr (5, [.ref q_t_text, .int z55_8, .int v_t_start_2, .int (v_t_start_2 + 1), .ref q_t_parts, .int v_t_lines])), (q_t_text, .inr (7, [.ref q_t_text_bytes, .int v_t_text_length])), (q_t_text_bytes, .inl (cI, 200, .inl v_t_text_bytes)), (q_t_parts, .inl (cI, 3, .inl v_t_parts))] H → va_D A [(q_t, .inr (5, [.ref q_t_text, .int z55_8, .int v_t_start_2, .int (v_t_start_2 + 1), .ref q_t_parts, .int v_t_lines])), (q_t_text, .inr (7, [.ref q_t_text_bytes, .int v_t_text_length])), (q_t_text_bytes, .inl (cI, 200, .inl v_t_text_bytes)), (q_t_parts, .inl (cI, 3, .inl v_t_parts))] → va_S A s.heap H locs → lv_has ls 2 [(0, .ref q_t)] → W p l e ({ frames := 2, cells := 0, slots := 0, locals := 42 } : Room) s m ([.ref q_t] : List Value).toArray below meth c H locs 0 0 (MQ below (QV D cI cJ cZ [(q_t, .inr (5, [.ref q_t_text, .int z.1, .int z.2.1, .int z.2.2, .ref q_t_parts, .int v_t_lines])), (q_t_text, .inr (7, [.ref q_t_text_bytes, .int v_t_text_length])), (q_t_text_bytes, .inl (cI, 200, .inl v_t_text_bytes)), (q_t_parts, .inl (cI, 3, .inl v_t_parts))] A) ([.ref q_t] : List Value).toArray s 0 0 A) (F0 m 104 ls []) := by
            intro _ hf H locs ls hP hD hS hl
            unfold f_X5_nextToken_J104 at hf
            refine lv_iconst (v := 0) hx hb dX5_nextToken_104 (by decide) ?_
            refine lv_istore_n (lv' := [(1, .int 0), (0, .ref q_t)]) hx hb dX5_nextToken_105 rfl hl (by decide) rfl (fun ls hl => ?_)
            have L106_13 : ∀ (n_15 : Nat) (x1_11 : Int32) (v_t_end_12 : Int32), f_X5_nextToken_L106 z55_8 v_t_start_2 v_t_text_length v_t_text_bytes n_15 x1_11 v_t_end_12 = some z → ∀ (H : Heap) (locs : List Loc) (ls : Array Slot), va_P D vwCl [(q_t, .inr (5, [.ref q_t_text, .int z55_8, .int v_t_start_2, .int v_t_end_12, .ref q_t_parts, .int v_t_lines])), (q_t_text, .inr (7, [.ref q_t_text_bytes, .int v_t_text_length])), (q_t_text_bytes, .inl (cI, 200, .inl v_t_text_bytes)), (q_t_parts, .inl (cI, 3, .inl v_t_parts))] H → va_D A [(q_t, .inr (5, [.ref q_t_text, .int z55_8, .int v_t_start_2, .int v_t_end_12, .ref q_t_parts, .int v_t_lines])), (q_t_text, .inr (7, [.ref q_t_text_bytes, .int v_t_text_length])), (q_t_text_bytes, .inl (cI, 200, .inl v_t_text_bytes)), (q_t_parts, .inl (cI, 3, .inl v_t_parts))] → va_S A s.heap H locs → lv_has ls 2 [(0, .ref q_t), (1, .int x1_11)] → W p l e ({ frames := 2, cells := 0, slots := 0, locals := 42 } : Room) s m ([.ref q_t] : List Value).toArray below meth c H locs 0 0 (MQ below (QV D cI cJ cZ [(q_t, .inr (5, [.ref q_t_text, .int z.1, .int z.2.1, .int z.2.2, .ref q_t_parts, .int v_t_lines])), (q_t_text, .inr (7, [.ref q_t_text_bytes, .int v_t_text_length])), (q_t_text_bytes, .inl (cI, 200, .inl v_t_text_bytes)), (q_t_parts, .inl (cI, 3, .inl v_t_parts))] A) ([.ref q_t] : List Value).toArray s 0 0 A) (F0 m 106 ls []) := by
              intro n_15
              induction n_15 with
              | zero =>
                intro x1_11 v_t_end_12 hf
                cases hf
              | succ n_15 ih_14 =>
                intro x1_11 v_t_end_12 hf H locs ls hP hD hS hl
                rw [f_X5_nextToken_L106] at hf
                refine lv_iload_n hx hb dX5_nextToken_106 rfl (lv_at hl 1 rfl) ?_
                refine lv_sipush (v := 200) hx hb dX5_nextToken_107 (by decide) ?_
                refine lv_icmp_ge (tgt := 147) hx hb dX5_nextToken_110 (by decide) (fun h_16 => ?_) (fun h_16 => ?_)
                · have hf := (if_pos h_16).symm.trans hf
                  have hf := Option.some.inj hf
                  subst hf
                  exact rt_v hx hb hr hlocks hK hP hS dX5_nextToken_147
                · have hf := (if_neg h_16).symm.trans hf
                  refine lv_aload_n hx hb dX5_nextToken_113 rfl (lv_at hl 0 rfl) ?_
                  refine lv_aload_n hx hb dX5_nextToken_114 rfl (lv_at hl 0 rfl) ?_
                  refine va_get (D := D) (ci := 5) (v := .int v_t_end_12) (C := RX5) (T := TX5) (N := 6) hx hb hts inX5 hown hK hP 0 rfl rfl 3 (by decide) (hts _ w_107) (fun _ h9 => h9) rfl dX5_nextToken_115 ?_
                  obtain ⟨z118_17, hz118_17, hf⟩ := bd_some hf
                  refine cVi (rest := []) ⟨hx, hb, hml, hown, hts⟩ hE hK hP hD hS hA (c_X5_byteAt l D cI cJ cZ en q_t q_t_text q_t_parts q_t_text_bytes H.size z55_8 v_t_start_2 v_t_end_12 v_t_lines v_t_text_length v_t_text_bytes v_t_parts v_t_end_12 hz118_17) (gv_X5_byteAt w_352) hd_X5_byteAt ⟨rfl, rfl⟩ ⟨by decide, by decide⟩ [0, 1, 2, 3] (And.intro rfl (And.intro rfl (And.intro rfl (And.intro rfl trivial)))) rfl (And.intro rfl (And.intro rfl (And.intro rfl (And.intro rfl trivial)))) 5 rfl rfl 0 rfl  hl rfl (Nat.le_of_ble_eq_true rfl) ⟨Nat.zero_le _, Nat.zero_le _⟩ dX5_nextToken_118 (fun H locs hP hD hS => ?_)
                  have hP : va_P D vwCl [(q_t, .inr (5, [.ref q_t_text, .int z55_8, .int v_t_start_2, .int v_t_end_12, .ref q_t_parts, .int v_t_lines])), (q_t_text, .inr (7, [.ref q_t_text_bytes, .int v_t_text_length])), (q_t_text_bytes, .inl (cI, 200, .inl v_t_text_bytes)), (q_t_parts, .inl (cI, 3, .inl v_t_parts))] H := hP
                  have hD : va_D A [(q_t, .inr (5, [.ref q_t_text, .int z55_8, .int v_t_start_2, .int v_t_end_12, .ref q_t_parts, .int v_t_lines])), (q_t_text, .inr (7, [.ref q_t_text_bytes, .int v_t_text_length])), (q_t_text_bytes, .inl (cI, 200, .inl v_t_text_bytes)), (q_t_parts, .inl (cI, 3, .inl v_t_parts))] := hD
                  obtain ⟨z121_18, hz121_18, hf⟩ := bd_some hf
                  refine cSi (rest := []) ⟨hx, hb, hml, hown, hts⟩ hE hK hP hD hS hA (c_X5_sortOf l D cI cJ cZ en  H.size z118_17 hz121_18) (gs_X5_sortOf w_360) hd_X5_sortOf ⟨rfl, rfl⟩ ⟨by decide, by decide⟩ [] trivial rfl trivial  hl rfl (Nat.le_of_ble_eq_true rfl) ⟨Nat.zero_le _, Nat.zero_le _⟩ dX5_nextToken_121 (fun H locs hP hD hS => ?_)
                  have hP : va_P D vwCl [(q_t, .inr (5, [.ref q_t_text, .int z55_8, .int v_t_start_2, .int v_t_end_12, .ref q_t_parts, .int v_t_lines])), (q_t_text, .inr (7, [.ref q_t_text_bytes, .int v_t_text_length])), (q_t_text_bytes, .inl (cI, 200, .inl v_t_text_bytes)), (q_t_parts, .inl (cI, 3, .inl v_t_parts))] H := hP
                  have hD : va_D A [(q_t, .inr (5, [.ref q_t_text, .int z55_8, .int v_t_start_2, .int v_t_end_12, .ref q_t_parts, .int v_t_lines])), (q_t_text, .inr (7, [.ref q_t_text_bytes, .int v_t_text_length])), (q_t_text_bytes, .inl (cI, 200, .inl v_t_text_bytes)), (q_t_parts, .inl (cI, 3, .inl v_t_parts))] := hD
                  refine lv_aload_n hx hb dX5_nextToken_124 rfl (lv_at hl 0 rfl) ?_
                  refine va_get (D := D) (ci := 5) (v := .int z55_8) (C := RX5) (T := TX5) (N := 6) hx hb hts inX5 hown hK hP 0 rfl rfl 1 (by decide) (hts _ w_105) (fun _ h9 => h9) rfl dX5_nextToken_125 ?_
                  refine lv_icmp_ne (tgt := 147) hx hb dX5_nextToken_128 (by decide) (fun h_19 => ?_) (fun h_19 => ?_)
                  · have hf := (if_neg h_19).symm.trans hf
                    have hf := Option.some.inj hf
                    subst hf
                    exact rt_v hx hb hr hlocks hK hP hS dX5_nextToken_147
                  · have hf := (if_pos h_19).symm.trans hf
                    refine lv_aload_n hx hb dX5_nextToken_131 rfl (lv_at hl 0 rfl) ?_
                    refine lv_dup hx hb dX5_nextToken_132 rfl ?_
                    refine va_get (D := D) (ci := 5) (v := .int v_t_end_12) (C := RX5) (T := TX5) (N := 6) hx hb hts inX5 hown hK hP 0 rfl rfl 3 (by decide) (hts _ w_107) (fun _ h9 => h9) rfl dX5_nextToken_133 ?_
                    refine lv_iconst (v := 1) hx hb dX5_nextToken_136 (by decide) ?_
                    refine lv_iadd hx hb dX5_nextToken_137 ?_
                    refine va_put (D := D) (ci := 5) (v := .int (v_t_end_12 + 1)) (ty := .int) (C := RX5) (T := TX5) (N := 6) hx hb hts inX5 tyX5 tyX5_ok nmX5 hown hK hP hD hS 0 rfl rfl 3 (by decide) (hts _ w_107) (fun _ h9 => h9) rfl (by decide +kernel) rfl rfl (Nat.le_of_ble_eq_true rfl) dX5_nextToken_138 (fun H locs hP hD hS => ?_)
                    have hP : va_P D vwCl [(q_t, .inr (5, [.ref q_t_text, .int z55_8, .int v_t_start_2, .int (v_t_end_12 + 1), .ref q_t_parts, .int v_t_lines])), (q_t_text, .inr (7, [.ref q_t_text_bytes, .int v_t_text_length])), (q_t_text_bytes, .inl (cI, 200, .inl v_t_text_bytes)), (q_t_parts, .inl (cI, 3, .inl v_t_parts))] H := hP
                    have hD : va_D A [(q_t, .inr (5, [.ref q_t_text, .int z55_8, .int v_t_start_2, .int (v_t_end_12 + 1), .ref q_t_parts, .int v_t_lines])), (q_t_text, .inr (7, [.ref q_t_text_bytes, .int v_t_text_length])), (q_t_text_bytes, .inl (cI, 200, .inl v_t_text_bytes)), (q_t_parts, .inl (cI, 3, .inl v_t_parts))] := hD
                    refine lv_iinc (v := (x1_11 + 1)) (lv' := [(1, .int (x1_11 + 1)), (0, .ref q_t)]) hx hb dX5_nextToken_141 hl (k := 1) rfl rfl (by decide) rfl (fun ls hl => ?_)
                    refine lv_goto (tgt := 106) hx hb dX5_nextToken_144 (by decide) ?_
                    exact ih_14 (x1_11 + 1) (v_t_end_12 + 1) hf _ _ _ hP hD hS (lv_sub hl [1, 0] rfl)
            exact L106_13 FU 0 (v_t_start_2 + 1) hf _ _ _ hP hD hS (lv_sub hl [1, 0] rfl)
          refine lv_icmp_eq (tgt := 104) hx hb dX5_nextToken_92 (by decide) (fun h_20 => ?_) (fun h_20 => ?_)
          · have hf := (if_pos h_20).symm.trans hf
            exact J104_10 () hf _ _ _ hP hD hS (lv_sub hl [0] rfl)
          · have hf := (if_neg h_20).symm.trans hf
            refine lv_aload_n hx hb dX5_nextToken_95 rfl (lv_at hl 0 rfl) ?_
            refine va_get (D := D) (ci := 5) (v := .int z55_8) (C := RX5) (T := TX5) (N := 6) hx hb hts inX5 hown hK hP 0 rfl rfl 1 (by decide) (hts _ w_105) (fun _ h9 => h9) rfl dX5_nextToken_96 ?_
            refine lv_iconst (v := 2) hx hb dX5_nextToken_99 (by decide) ?_
            refine lv_icmp_eq (tgt := 104) hx hb dX5_nextToken_100 (by decide) (fun h_21 => ?_) (fun h_21 => ?_)
            · have hf := (if_pos h_21).symm.trans hf
              exact J104_10 () hf _ _ _ hP hD hS (lv_sub hl [0] rfl)
            · have hf := (if_neg h_21).symm.trans hf
              have hf := Option.some.inj hf
              subst hf
              exact rt_v hx hb hr hlocks hK hP hS dX5_nextToken_103
        · have hf := (if_pos h_9).symm.trans hf
          have hf := Option.some.inj hf
          subst hf
          exact rt_v hx hb hr hlocks hK hP hS dX5_nextToken_76
      refine lv_icmp_ge (tgt := 46) hx hb dX5_nextToken_14 (by decide) (fun h_22 => ?_) (fun h_22 => ?_)
      · have hf := (if_pos h_22).symm.trans hf
        exact J46_6 () hf _ _ _ hP hD hS (lv_sub hl [0] rfl)
      · have hf := (if_neg h_22).symm.trans hf
        refine lv_aload_n hx hb dX5_nextToken_17 rfl (lv_at hl 0 rfl) ?_
        refine lv_aload_n hx hb dX5_nextToken_18 rfl (lv_at hl 0 rfl) ?_
        refine va_get (D := D) (ci := 5) (v := .int v_t_start_2) (C := RX5) (T := TX5) (N := 6) hx hb hts inX5 hown hK hP 0 rfl rfl 2 (by decide) (hts _ w_106) (fun _ h9 => h9) rfl dX5_nextToken_19 ?_
        obtain ⟨z22_23, hz22_23, hf⟩ := bd_some hf
        refine cVi (rest := []) ⟨hx, hb, hml, hown, hts⟩ hE hK hP hD hS hA (c_X5_byteAt l D cI cJ cZ en q_t q_t_text q_t_parts q_t_text_bytes H.size v_t_sort v_t_start_2 v_t_end v_t_lines v_t_text_length v_t_text_bytes v_t_parts v_t_start_2 hz22_23) (gv_X5_byteAt w_352) hd_X5_byteAt ⟨rfl, rfl⟩ ⟨by decide, by decide⟩ [0, 1, 2, 3] (And.intro rfl (And.intro rfl (And.intro rfl (And.intro rfl trivial)))) rfl (And.intro rfl (And.intro rfl (And.intro rfl (And.intro rfl trivial)))) 5 rfl rfl 0 rfl  hl rfl (Nat.le_of_ble_eq_true rfl) ⟨Nat.zero_le _, Nat.zero_le _⟩ dX5_nextToken_22 (fun H locs hP hD hS => ?_)
        have hP : va_P D vwCl [(q_t, .inr (5, [.ref q_t_text, .int v_t_sort, .int v_t_start_2, .int v_t_end, .ref q_t_parts, .int v_t_lines])), (q_t_text, .inr (7, [.ref q_t_text_bytes, .int v_t_text_length])), (q_t_text_bytes, .inl (cI, 200, .inl v_t_text_bytes)), (q_t_parts, .inl (cI, 3, .inl v_t_parts))] H := hP
        have hD : va_D A [(q_t, .inr (5, [.ref q_t_text, .int v_t_sort, .int v_t_start_2, .int v_t_end, .ref q_t_parts, .int v_t_lines])), (q_t_text, .inr (7, [.ref q_t_text_bytes, .int v_t_text_length])), (q_t_text_bytes, .inl (cI, 200, .inl v_t_text_bytes)), (q_t_parts, .inl (cI, 3, .inl v_t_parts))] := hD
        refine lv_bipush (v := 32) hx hb dX5_nextToken_25 (by decide) ?_
        refine lv_icmp_ne (tgt := 46) hx hb dX5_nextToken_27 (by decide) (fun h_24 => ?_) (fun h_24 => ?_)
        · have hf := (if_neg h_24).symm.trans hf
          exact J46_6 () hf _ _ _ hP hD hS (lv_sub hl [0] rfl)
        · have hf := (if_pos h_24).symm.trans hf
          refine lv_aload_n hx hb dX5_nextToken_30 rfl (lv_at hl 0 rfl) ?_
          refine lv_dup hx hb dX5_nextToken_31 rfl ?_
          refine va_get (D := D) (ci := 5) (v := .int v_t_start_2) (C := RX5) (T := TX5) (N := 6) hx hb hts inX5 hown hK hP 0 rfl rfl 2 (by decide) (hts _ w_106) (fun _ h9 => h9) rfl dX5_nextToken_32 ?_
          refine lv_iconst (v := 1) hx hb dX5_nextToken_35 (by decide) ?_
          refine lv_iadd hx hb dX5_nextToken_36 ?_
          refine va_put (D := D) (ci := 5) (v := .int (v_t_start_2 + 1)) (ty := .int) (C := RX5) (T := TX5) (N := 6) hx hb hts inX5 tyX5 tyX5_ok nmX5 hown hK hP hD hS 0 rfl rfl 2 (by decide) (hts _ w_106) (fun _ h9 => h9) rfl (by decide +kernel) rfl rfl (Nat.le_of_ble_eq_true rfl) dX5_nextToken_37 (fun H locs hP hD hS => ?_)
          have hP : va_P D vwCl [(q_t, .inr (5, [.ref q_t_text, .int v_t_sort, .int (v_t_start_2 + 1), .int v_t_end, .ref q_t_parts, .int v_t_lines])), (q_t_text, .inr (7, [.ref q_t_text_bytes, .int v_t_text_length])), (q_t_text_bytes, .inl (cI, 200, .inl v_t_text_bytes)), (q_t_parts, .inl (cI, 3, .inl v_t_parts))] H := hP
          have hD : va_D A [(q_t, .inr (5, [.ref q_t_text, .int v_t_sort, .int (v_t_start_2 + 1), .int v_t_end, .ref q_t_parts, .int v_t_lines])), (q_t_text, .inr (7, [.ref q_t_text_bytes, .int v_t_text_length])), (q_t_text_bytes, .inl (cI, 200, .inl v_t_text_bytes)), (q_t_parts, .inl (cI, 3, .inl v_t_parts))] := hD
          refine lv_iinc (v := (x1_1 + 1)) (lv' := [(1, .int (x1_1 + 1)), (0, .ref q_t)]) hx hb dX5_nextToken_40 hl (k := 1) rfl rfl (by decide) rfl (fun ls hl => ?_)
          refine lv_goto (tgt := 10) hx hb dX5_nextToken_43 (by decide) ?_
          exact ih_4 (x1_1 + 1) (v_t_start_2 + 1) hf _ _ _ hP hD hS (lv_sub hl [1, 0] rfl)
  exact L10_3 FU 0 v_t_end hf _ _ _ hP hD hS (lv_sub hl [1, 0] rfl)

def f_X5_letterTold (v_t_sort : Int32) (v_t_start : Int32) (v_t_end : Int32) (v_t_text_length : Int32) (v_t_text_bytes : Nat → Int32) : Option (Int32) :=
  (if v_t_sort = 1 then (if (v_t_end - v_t_start) = 1 then (f_X5_byteAt v_t_text_length v_t_text_bytes v_t_start).bind (fun z26 => (some (z26 - 97))) else (some (-1))) else (some (-1)))
theorem gv_X5_letterTold {own : String} {idx : Nat} (h : Cond.methodLink own idx yX5_letterTold ∈ lw_g) : GoodIn lw_g (wsV own idx RX5 yX5_letterTold (Cond.code yX5_letterTold cX5_letterTold 1 (some .int) :: lw_g)) := gV h w_446 w_5 w_59 w_447
theorem hd_X5_letterTold : yX5_letterTold.cls = RX5 ∧ yX5_letterTold.cls ≠ "java/lang/invoke/MethodHandle" ∧ yX5_letterTold.cls ≠ "java/lang/invoke/VarHandle" ∧ (parseMethodDescriptor yX5_letterTold.desc).map (fun d => d.parameters.length) = some 0 := by decide +kernel
set_option maxHeartbeats 4000000 in
set_option maxRecDepth 100000 in
theorem c_X5_letterTold (l : Launch) (D : va_G) (cI cJ cZ : ClassId) (en : EnT) (q_t q_t_text q_t_parts q_t_text_bytes : Nat) (sz : Nat) (v_t_sort : Int32) (v_t_start : Int32) (v_t_end : Int32) (v_t_lines : Int32) (v_t_text_length : Int32) (v_t_text_bytes : Nat → Int32) (v_t_parts : Nat → Int32) {z : Int32} (hf : f_X5_letterTold v_t_sort v_t_start v_t_end v_t_text_length v_t_text_bytes = some z) : Met l yX5_letterTold (Cond.code yX5_letterTold cX5_letterTold 1 (some .int) :: lw_g) ({ frames := 2, cells := 0, slots := 0, locals := 42 } : Room) (PC D cI cJ cZ en ([.ref q_t] : List Value) [(q_t, .inr (5, [.ref q_t_text, .int v_t_sort, .int v_t_start, .int v_t_end, .ref q_t_parts, .int v_t_lines])), (q_t_text, .inr (7, [.ref q_t_text_bytes, .int v_t_text_length])), (q_t_text_bytes, .inl (cI, 200, .inl v_t_text_bytes)), (q_t_parts, .inl (cI, 3, .inl v_t_parts))] sz) (QI D cI cJ cZ [(q_t, .inr (5, [.ref q_t_text, .int v_t_sort, .int v_t_start, .int v_t_end, .ref q_t_parts, .int v_t_lines])), (q_t_text, .inr (7, [.ref q_t_text_bytes, .int v_t_text_length])), (q_t_text_bytes, .inl (cI, 200, .inl v_t_text_bytes)), (q_t_parts, .inl (cI, 3, .inl v_t_parts))] z (va_A [(q_t, .inr (5, [.ref q_t_text, .int v_t_sort, .int v_t_start, .int v_t_end, .ref q_t_parts, .int v_t_lines])), (q_t_text, .inr (7, [.ref q_t_text_bytes, .int v_t_text_length])), (q_t_text_bytes, .inl (cI, 200, .inl v_t_text_bytes)), (q_t_parts, .inl (cI, 3, .inl v_t_parts))] sz)) 0 0 (va_A [(q_t, .inr (5, [.ref q_t_text, .int v_t_sort, .int v_t_start, .int v_t_end, .ref q_t_parts, .int v_t_lines])), (q_t_text, .inr (7, [.ref q_t_text_bytes, .int v_t_text_length])), (q_t_text_bytes, .inl (cI, 200, .inl v_t_text_bytes)), (q_t_parts, .inl (cI, 3, .inl v_t_parts))] sz) := by
  refine mk_met (Qc := fun A => (QI D cI cJ cZ [(q_t, .inr (5, [.ref q_t_text, .int v_t_sort, .int v_t_start, .int v_t_end, .ref q_t_parts, .int v_t_lines])), (q_t_text, .inr (7, [.ref q_t_text_bytes, .int v_t_text_length])), (q_t_text_bytes, .inl (cI, 200, .inl v_t_text_bytes)), (q_t_parts, .inl (cI, 3, .inl v_t_parts))] z A)) RX5 (by decide) rfl (Nat.le_of_ble_eq_true rfl) ?_
  intro p e s m below meth c ls A hx hb hr hml hown hts hlocks hA hK hE hl hD H locs hP hS
  have hl : lv_has ls 1 [(0, .ref q_t)] := hl
  unfold f_X5_letterTold at hf
  refine lv_aload_n hx hb dX5_letterTold_0 rfl (lv_at hl 0 rfl) ?_
  refine va_get (D := D) (ci := 5) (v := .int v_t_sort) (C := RX5) (T := TX5) (N := 6) hx hb hts inX5 hown hK hP 0 rfl rfl 1 (by decide) (hts _ w_105) (fun _ h9 => h9) rfl dX5_letterTold_1 ?_
  refine lv_iconst (v := 1) hx hb dX5_letterTold_4 (by decide) ?_
  refine lv_icmp_ne (tgt := 35) hx hb dX5_letterTold_5 (by decide) (fun h_1 => ?_) (fun h_1 => ?_)
  · have hf := (if_neg h_1).symm.trans hf
    refine lv_iconst (v := (-1)) hx hb dX5_letterTold_35 (by decide) ?_
    have hf := Option.some.inj hf
    subst hf
    exact rt_i hx hb hr hlocks hK hP hS dX5_letterTold_36
  · have hf := (if_pos h_1).symm.trans hf
    refine lv_aload_n hx hb dX5_letterTold_8 rfl (lv_at hl 0 rfl) ?_
    refine va_get (D := D) (ci := 5) (v := .int v_t_end) (C := RX5) (T := TX5) (N := 6) hx hb hts inX5 hown hK hP 0 rfl rfl 3 (by decide) (hts _ w_107) (fun _ h9 => h9) rfl dX5_letterTold_9 ?_
    refine lv_aload_n hx hb dX5_letterTold_12 rfl (lv_at hl 0 rfl) ?_
    refine va_get (D := D) (ci := 5) (v := .int v_t_start) (C := RX5) (T := TX5) (N := 6) hx hb hts inX5 hown hK hP 0 rfl rfl 2 (by decide) (hts _ w_106) (fun _ h9 => h9) rfl dX5_letterTold_13 ?_
    refine lv_isub hx hb dX5_letterTold_16 ?_
    refine lv_iconst (v := 1) hx hb dX5_letterTold_17 (by decide) ?_
    refine lv_icmp_ne (tgt := 35) hx hb dX5_letterTold_18 (by decide) (fun h_2 => ?_) (fun h_2 => ?_)
    · have hf := (if_neg h_2).symm.trans hf
      refine lv_iconst (v := (-1)) hx hb dX5_letterTold_35 (by decide) ?_
      have hf := Option.some.inj hf
      subst hf
      exact rt_i hx hb hr hlocks hK hP hS dX5_letterTold_36
    · have hf := (if_pos h_2).symm.trans hf
      refine lv_aload_n hx hb dX5_letterTold_21 rfl (lv_at hl 0 rfl) ?_
      refine lv_aload_n hx hb dX5_letterTold_22 rfl (lv_at hl 0 rfl) ?_
      refine va_get (D := D) (ci := 5) (v := .int v_t_start) (C := RX5) (T := TX5) (N := 6) hx hb hts inX5 hown hK hP 0 rfl rfl 2 (by decide) (hts _ w_106) (fun _ h9 => h9) rfl dX5_letterTold_23 ?_
      obtain ⟨z26_3, hz26_3, hf⟩ := bd_some hf
      refine cVi (rest := []) ⟨hx, hb, hml, hown, hts⟩ hE hK hP hD hS hA (c_X5_byteAt l D cI cJ cZ en q_t q_t_text q_t_parts q_t_text_bytes H.size v_t_sort v_t_start v_t_end v_t_lines v_t_text_length v_t_text_bytes v_t_parts v_t_start hz26_3) (gv_X5_byteAt w_352) hd_X5_byteAt ⟨rfl, rfl⟩ ⟨by decide, by decide⟩ [0, 1, 2, 3] (And.intro rfl (And.intro rfl (And.intro rfl (And.intro rfl trivial)))) rfl (And.intro rfl (And.intro rfl (And.intro rfl (And.intro rfl trivial)))) 5 rfl rfl 0 rfl  hl rfl (Nat.le_of_ble_eq_true rfl) ⟨Nat.zero_le _, Nat.zero_le _⟩ dX5_letterTold_26 (fun H locs hP hD hS => ?_)
      have hP : va_P D vwCl [(q_t, .inr (5, [.ref q_t_text, .int v_t_sort, .int v_t_start, .int v_t_end, .ref q_t_parts, .int v_t_lines])), (q_t_text, .inr (7, [.ref q_t_text_bytes, .int v_t_text_length])), (q_t_text_bytes, .inl (cI, 200, .inl v_t_text_bytes)), (q_t_parts, .inl (cI, 3, .inl v_t_parts))] H := hP
      have hD : va_D A [(q_t, .inr (5, [.ref q_t_text, .int v_t_sort, .int v_t_start, .int v_t_end, .ref q_t_parts, .int v_t_lines])), (q_t_text, .inr (7, [.ref q_t_text_bytes, .int v_t_text_length])), (q_t_text_bytes, .inl (cI, 200, .inl v_t_text_bytes)), (q_t_parts, .inl (cI, 3, .inl v_t_parts))] := hD
      refine lv_bipush (v := 97) hx hb dX5_letterTold_29 (by decide) ?_
      refine lv_isub hx hb dX5_letterTold_31 ?_
      refine lv_goto (tgt := 36) hx hb dX5_letterTold_32 (by decide) ?_
      have hf := Option.some.inj hf
      subst hf
      exact rt_i hx hb hr hlocks hK hP hS dX5_letterTold_36

def f_X5_numberTold_L30 (v_t_end : Int32) (v_t_text_length : Int32) (v_t_text_bytes : Nat → Int32) : Nat → (Int32) → (Int32) → Option (Int32)
  | 0, _, _ => none
  | n + 1, x1, x2 => (if v_t_end ≤ x2 then (some x1) else (f_X5_byteAt v_t_text_length v_t_text_bytes x2).bind (fun z44 => (f_X5_numberTold_L30 v_t_end v_t_text_length v_t_text_bytes n (((x1 * 10) + z44) - 48) (x2 + 1))))
def f_X5_numberTold (v_t_sort : Int32) (v_t_start : Int32) (v_t_end : Int32) (v_t_text_length : Int32) (v_t_text_bytes : Nat → Int32) : Option (Int32) :=
  (if v_t_sort = 2 then (if (v_t_end - v_t_start) ≤ 2 then (f_X5_numberTold_L30 v_t_end v_t_text_length v_t_text_bytes FU 0 v_t_start) else (some (-1))) else (some (-1)))
theorem gv_X5_numberTold {own : String} {idx : Nat} (h : Cond.methodLink own idx yX5_numberTold ∈ lw_g) : GoodIn lw_g (wsV own idx RX5 yX5_numberTold (Cond.code yX5_numberTold cX5_numberTold 3 (some .int) :: lw_g)) := gV h w_450 w_6 w_59 w_451
theorem hd_X5_numberTold : yX5_numberTold.cls = RX5 ∧ yX5_numberTold.cls ≠ "java/lang/invoke/MethodHandle" ∧ yX5_numberTold.cls ≠ "java/lang/invoke/VarHandle" ∧ (parseMethodDescriptor yX5_numberTold.desc).map (fun d => d.parameters.length) = some 0 := by decide +kernel
set_option maxHeartbeats 4000000 in
set_option maxRecDepth 100000 in
theorem c_X5_numberTold (l : Launch) (D : va_G) (cI cJ cZ : ClassId) (en : EnT) (q_t q_t_text q_t_parts q_t_text_bytes : Nat) (sz : Nat) (v_t_sort : Int32) (v_t_start : Int32) (v_t_end : Int32) (v_t_lines : Int32) (v_t_text_length : Int32) (v_t_text_bytes : Nat → Int32) (v_t_parts : Nat → Int32) {z : Int32} (hf : f_X5_numberTold v_t_sort v_t_start v_t_end v_t_text_length v_t_text_bytes = some z) : Met l yX5_numberTold (Cond.code yX5_numberTold cX5_numberTold 3 (some .int) :: lw_g) ({ frames := 2, cells := 0, slots := 0, locals := 42 } : Room) (PC D cI cJ cZ en ([.ref q_t] : List Value) [(q_t, .inr (5, [.ref q_t_text, .int v_t_sort, .int v_t_start, .int v_t_end, .ref q_t_parts, .int v_t_lines])), (q_t_text, .inr (7, [.ref q_t_text_bytes, .int v_t_text_length])), (q_t_text_bytes, .inl (cI, 200, .inl v_t_text_bytes)), (q_t_parts, .inl (cI, 3, .inl v_t_parts))] sz) (QI D cI cJ cZ [(q_t, .inr (5, [.ref q_t_text, .int v_t_sort, .int v_t_start, .int v_t_end, .ref q_t_parts, .int v_t_lines])), (q_t_text, .inr (7, [.ref q_t_text_bytes, .int v_t_text_length])), (q_t_text_bytes, .inl (cI, 200, .inl v_t_text_bytes)), (q_t_parts, .inl (cI, 3, .inl v_t_parts))] z (va_A [(q_t, .inr (5, [.ref q_t_text, .int v_t_sort, .int v_t_start, .int v_t_end, .ref q_t_parts, .int v_t_lines])), (q_t_text, .inr (7, [.ref q_t_text_bytes, .int v_t_text_length])), (q_t_text_bytes, .inl (cI, 200, .inl v_t_text_bytes)), (q_t_parts, .inl (cI, 3, .inl v_t_parts))] sz)) 0 0 (va_A [(q_t, .inr (5, [.ref q_t_text, .int v_t_sort, .int v_t_start, .int v_t_end, .ref q_t_parts, .int v_t_lines])), (q_t_text, .inr (7, [.ref q_t_text_bytes, .int v_t_text_length])), (q_t_text_bytes, .inl (cI, 200, .inl v_t_text_bytes)), (q_t_parts, .inl (cI, 3, .inl v_t_parts))] sz) := by
  refine mk_met (Qc := fun A => (QI D cI cJ cZ [(q_t, .inr (5, [.ref q_t_text, .int v_t_sort, .int v_t_start, .int v_t_end, .ref q_t_parts, .int v_t_lines])), (q_t_text, .inr (7, [.ref q_t_text_bytes, .int v_t_text_length])), (q_t_text_bytes, .inl (cI, 200, .inl v_t_text_bytes)), (q_t_parts, .inl (cI, 3, .inl v_t_parts))] z A)) RX5 (by decide) rfl (Nat.le_of_ble_eq_true rfl) ?_
  intro p e s m below meth c ls A hx hb hr hml hown hts hlocks hA hK hE hl hD H locs hP hS
  have hl : lv_has ls 3 [(0, .ref q_t)] := hl
  unfold f_X5_numberTold at hf
  refine lv_aload_n hx hb dX5_numberTold_0 rfl (lv_at hl 0 rfl) ?_
  refine va_get (D := D) (ci := 5) (v := .int v_t_sort) (C := RX5) (T := TX5) (N := 6) hx hb hts inX5 hown hK hP 0 rfl rfl 1 (by decide) (hts _ w_105) (fun _ h9 => h9) rfl dX5_numberTold_1 ?_
  refine lv_iconst (v := 2) hx hb dX5_numberTold_4 (by decide) ?_
  refine lv_icmp_ne (tgt := 21) hx hb dX5_numberTold_5 (by decide) (fun h_1 => ?_) (fun h_1 => ?_)
  · have hf := (if_neg h_1).symm.trans hf
    refine lv_iconst (v := (-1)) hx hb dX5_numberTold_21 (by decide) ?_
    have hf := Option.some.inj hf
    subst hf
    exact rt_i hx hb hr hlocks hK hP hS dX5_numberTold_22
  · have hf := (if_pos h_1).symm.trans hf
    refine lv_aload_n hx hb dX5_numberTold_8 rfl (lv_at hl 0 rfl) ?_
    refine va_get (D := D) (ci := 5) (v := .int v_t_end) (C := RX5) (T := TX5) (N := 6) hx hb hts inX5 hown hK hP 0 rfl rfl 3 (by decide) (hts _ w_107) (fun _ h9 => h9) rfl dX5_numberTold_9 ?_
    refine lv_aload_n hx hb dX5_numberTold_12 rfl (lv_at hl 0 rfl) ?_
    refine va_get (D := D) (ci := 5) (v := .int v_t_start) (C := RX5) (T := TX5) (N := 6) hx hb hts inX5 hown hK hP 0 rfl rfl 2 (by decide) (hts _ w_106) (fun _ h9 => h9) rfl dX5_numberTold_13 ?_
    refine lv_isub hx hb dX5_numberTold_16 ?_
    refine lv_iconst (v := 2) hx hb dX5_numberTold_17 (by decide) ?_
    refine lv_icmp_le (tgt := 23) hx hb dX5_numberTold_18 (by decide) (fun h_2 => ?_) (fun h_2 => ?_)
    · have hf := (if_pos h_2).symm.trans hf
      refine lv_iconst (v := 0) hx hb dX5_numberTold_23 (by decide) ?_
      refine lv_istore_n (lv' := [(1, .int 0), (0, .ref q_t)]) hx hb dX5_numberTold_24 rfl hl (by decide) rfl (fun ls hl => ?_)
      refine lv_aload_n hx hb dX5_numberTold_25 rfl (lv_at hl 1 rfl) ?_
      refine va_get (D := D) (ci := 5) (v := .int v_t_start) (C := RX5) (T := TX5) (N := 6) hx hb hts inX5 hown hK hP 0 rfl rfl 2 (by decide) (hts _ w_106) (fun _ h9 => h9) rfl dX5_numberTold_26 ?_
      refine lv_istore_n (lv' := [(2, .int v_t_start), (1, .int 0), (0, .ref q_t)]) hx hb dX5_numberTold_29 rfl hl (by decide) rfl (fun ls hl => ?_)
      have L30_5 : ∀ (n_7 : Nat) (x1_3 : Int32) (x2_4 : Int32), f_X5_numberTold_L30 v_t_end v_t_text_length v_t_text_bytes n_7 x1_3 x2_4 = some z → ∀ (H : Heap) (locs : List Loc) (ls : Array Slot), va_P D vwCl [(q_t, .inr (5, [.ref q_t_text, .int v_t_sort, .int v_t_start, .int v_t_end, .ref q_t_parts, .int v_t_lines])), (q_t_text, .inr (7, [.ref q_t_text_bytes, .int v_t_text_length])), (q_t_text_bytes, .inl (cI, 200, .inl v_t_text_bytes)), (q_t_parts, .inl (cI, 3, .inl v_t_parts))] H → va_D A [(q_t, .inr (5, [.ref q_t_text, .int v_t_sort, .int v_t_start, .int v_t_end, .ref q_t_parts, .int v_t_lines])), (q_t_text, .inr (7, [.ref q_t_text_bytes, .int v_t_text_length])), (q_t_text_bytes, .inl (cI, 200, .inl v_t_text_bytes)), (q_t_parts, .inl (cI, 3, .inl v_t_parts))] → va_S A s.heap H locs → lv_has ls 3 [(0, .ref q_t), (1, .int x1_3), (2, .int x2_4)] → W p l e ({ frames := 2, cells := 0, slots := 0, locals := 42 } : Room) s m ([.ref q_t] : List Value).toArray below meth c H locs 0 0 (MQ below (QI D cI cJ cZ [(q_t, .inr (5, [.ref q_t_text, .int v_t_sort, .int v_t_start, .int v_t_end, .ref q_t_parts, .int v_t_lines])), (q_t_text, .inr (7, [.ref q_t_text_bytes, .int v_t_text_length])), (q_t_text_bytes, .inl (cI, 200, .inl v_t_text_bytes)), (q_t_parts, .inl (cI, 3, .inl v_t_parts))] z A) ([.ref q_t] : List Value).toArray s 0 0 A) (F0 m 30 ls []) := by
        intro n_7
        induction n_7 with
        | zero =>
          intro x1_3 x2_4 hf
          cases hf
        | succ n_7 ih_6 =>
          intro x1_3 x2_4 hf H locs ls hP hD hS hl
          rw [f_X5_numberTold_L30] at hf
          refine lv_iload_n hx hb dX5_numberTold_30 rfl (lv_at hl 2 rfl) ?_
          refine lv_aload_n hx hb dX5_numberTold_31 rfl (lv_at hl 0 rfl) ?_
          refine va_get (D := D) (ci := 5) (v := .int v_t_end) (C := RX5) (T := TX5) (N := 6) hx hb hts inX5 hown hK hP 0 rfl rfl 3 (by decide) (hts _ w_107) (fun _ h9 => h9) rfl dX5_numberTold_32 ?_
          refine lv_icmp_ge (tgt := 58) hx hb dX5_numberTold_35 (by decide) (fun h_8 => ?_) (fun h_8 => ?_)
          · have hf := (if_pos h_8).symm.trans hf
            refine lv_iload_n hx hb dX5_numberTold_58 rfl (lv_at hl 1 rfl) ?_
            have hf := Option.some.inj hf
            subst hf
            exact rt_i hx hb hr hlocks hK hP hS dX5_numberTold_59
          · have hf := (if_neg h_8).symm.trans hf
            refine lv_iload_n hx hb dX5_numberTold_38 rfl (lv_at hl 1 rfl) ?_
            refine lv_bipush (v := 10) hx hb dX5_numberTold_39 (by decide) ?_
            refine lv_imul hx hb dX5_numberTold_41 ?_
            refine lv_aload_n hx hb dX5_numberTold_42 rfl (lv_at hl 0 rfl) ?_
            refine lv_iload_n hx hb dX5_numberTold_43 rfl (lv_at hl 2 rfl) ?_
            obtain ⟨z44_9, hz44_9, hf⟩ := bd_some hf
            refine cVi (rest := [.int (x1_3 * 10)]) ⟨hx, hb, hml, hown, hts⟩ hE hK hP hD hS hA (c_X5_byteAt l D cI cJ cZ en q_t q_t_text q_t_parts q_t_text_bytes H.size v_t_sort v_t_start v_t_end v_t_lines v_t_text_length v_t_text_bytes v_t_parts x2_4 hz44_9) (gv_X5_byteAt w_352) hd_X5_byteAt ⟨rfl, rfl⟩ ⟨by decide, by decide⟩ [0, 1, 2, 3] (And.intro rfl (And.intro rfl (And.intro rfl (And.intro rfl trivial)))) rfl (And.intro rfl (And.intro rfl (And.intro rfl (And.intro rfl trivial)))) 5 rfl rfl 0 rfl  hl rfl (Nat.le_of_ble_eq_true rfl) ⟨Nat.zero_le _, Nat.zero_le _⟩ dX5_numberTold_44 (fun H locs hP hD hS => ?_)
            have hP : va_P D vwCl [(q_t, .inr (5, [.ref q_t_text, .int v_t_sort, .int v_t_start, .int v_t_end, .ref q_t_parts, .int v_t_lines])), (q_t_text, .inr (7, [.ref q_t_text_bytes, .int v_t_text_length])), (q_t_text_bytes, .inl (cI, 200, .inl v_t_text_bytes)), (q_t_parts, .inl (cI, 3, .inl v_t_parts))] H := hP
            have hD : va_D A [(q_t, .inr (5, [.ref q_t_text, .int v_t_sort, .int v_t_start, .int v_t_end, .ref q_t_parts, .int v_t_lines])), (q_t_text, .inr (7, [.ref q_t_text_bytes, .int v_t_text_length])), (q_t_text_bytes, .inl (cI, 200, .inl v_t_text_bytes)), (q_t_parts, .inl (cI, 3, .inl v_t_parts))] := hD
            refine lv_iadd hx hb dX5_numberTold_47 ?_
            refine lv_bipush (v := 48) hx hb dX5_numberTold_48 (by decide) ?_
            refine lv_isub hx hb dX5_numberTold_50 ?_
            refine lv_istore_n (lv' := [(1, .int (((x1_3 * 10) + z44_9) - 48)), (0, .ref q_t), (2, .int x2_4)]) hx hb dX5_numberTold_51 rfl hl (by decide) rfl (fun ls hl => ?_)
            refine lv_iinc (v := (x2_4 + 1)) (lv' := [(2, .int (x2_4 + 1)), (1, .int (((x1_3 * 10) + z44_9) - 48)), (0, .ref q_t)]) hx hb dX5_numberTold_52 hl (k := 2) rfl rfl (by decide) rfl (fun ls hl => ?_)
            refine lv_goto (tgt := 30) hx hb dX5_numberTold_55 (by decide) ?_
            exact ih_6 (((x1_3 * 10) + z44_9) - 48) (x2_4 + 1) hf _ _ _ hP hD hS (lv_sub hl [2, 1, 0] rfl)
      exact L30_5 FU 0 v_t_start hf _ _ _ hP hD hS (lv_sub hl [2, 1, 0] rfl)
    · have hf := (if_neg h_2).symm.trans hf
      refine lv_iconst (v := (-1)) hx hb dX5_numberTold_21 (by decide) ?_
      have hf := Option.some.inj hf
      subst hf
      exact rt_i hx hb hr hlocks hK hP hS dX5_numberTold_22

def f_X5_isWithin (v_t_parts : Nat → Int32) (v_a3_columns : Int32) (v_a3_rows : Int32) (v_a3_ground : Nat → Int32) (x1 : Int32) (x2 : Int32) : Option (Int32) :=
  (if x1 = 65 then (if x2 < 0 then (some 0) else (if 9 < x2 then (some 0) else (some 1))) else (if x1 = 68 then (if x2 < 0 then (some 0) else (if 60 < x2 then (some 0) else (some 1))) else (if x1 = 70 then gd (ib 1 3) ((f_X2_cellAt v_a3_columns v_a3_rows (v_t_parts (Int32.toNatClampNeg 1)) x2).bind (fun z178 => (f_X2_isFloor v_a3_columns v_a3_rows v_a3_ground z178).bind (fun z181 => (gd (z181 = 0 ∨ z181 = 1) (some z181))))) else (if x1 = 72 then (if x2 < 0 then (some 0) else (if 24 ≤ x2 then (some 0) else (some 1))) else (if x1 = 76 then (if x2 < 1 then (some 0) else (if 99 < x2 then (some 0) else (some 1))) else (if x1 = 78 then (if x2 < 1 then (some 0) else (if 9 < x2 then (some 0) else (some 1))) else (if x1 = 83 then (if x2 < 0 then (some 0) else (if 99 < x2 then (some 0) else (some 1))) else (if x1 = 84 then (if x2 < 0 then (some 0) else (if 6 ≤ x2 then (some 0) else (some 1))) else (if x1 = 87 then (if x2 < 1 then (some 0) else (if 6 < x2 then (some 0) else (some 1))) else (if x1 = 88 then (if x2 < 0 then (some 0) else (if v_a3_columns ≤ x2 then (some 0) else (some 1))) else (if x1 = 89 then (if x2 < 0 then (some 0) else (if v_a3_rows ≤ x2 then (some 0) else (some 1))) else (some 0))))))))))))
theorem gv_X5_isWithin {own : String} {idx : Nat} (h : Cond.methodLink own idx yX5_isWithin ∈ lw_g) : GoodIn lw_g (wsV own idx RX5 yX5_isWithin (Cond.code yX5_isWithin cX5_isWithin 4 (some .boolean) :: lw_g)) := gV h w_454 w_7 w_59 w_455
theorem hd_X5_isWithin : yX5_isWithin.cls = RX5 ∧ yX5_isWithin.cls ≠ "java/lang/invoke/MethodHandle" ∧ yX5_isWithin.cls ≠ "java/lang/invoke/VarHandle" ∧ (parseMethodDescriptor yX5_isWithin.desc).map (fun d => d.parameters.length) = some 3 := by decide +kernel
set_option maxHeartbeats 4000000 in
set_option maxRecDepth 100000 in
theorem c_X5_isWithin (l : Launch) (D : va_G) (cI cJ cZ : ClassId) (en : EnT) (q_t q_t_text q_t_parts q_t_text_bytes q_a3 q_a3_ground q_a3_windows q_a3_lawParts : Nat) (sz : Nat) (v_t_sort : Int32) (v_t_start : Int32) (v_t_end : Int32) (v_t_lines : Int32) (v_t_text_length : Int32) (v_t_text_bytes : Nat → Int32) (v_t_parts : Nat → Int32) (v_a3_columns : Int32) (v_a3_rows : Int32) (v_a3_fade : Int32) (v_a3_laws : Int32) (v_a3_nightHours : Int32) (v_a3_nightTimes : Int32) (v_a3_ground : Nat → Int32) (v_a3_windows : Nat → Int32) (v_a3_lawParts : Nat → Int32) (x1 : Int32) (x2 : Int32) {z : Int32} (hf : f_X5_isWithin v_t_parts v_a3_columns v_a3_rows v_a3_ground x1 x2 = some z) : Met l yX5_isWithin (Cond.code yX5_isWithin cX5_isWithin 4 (some .boolean) :: lw_g) ({ frames := 2, cells := 0, slots := 0, locals := 42 } : Room) (PC D cI cJ cZ en ([.ref q_t, .int x1, .int x2, .ref q_a3] : List Value) [(q_t, .inr (5, [.ref q_t_text, .int v_t_sort, .int v_t_start, .int v_t_end, .ref q_t_parts, .int v_t_lines])), (q_t_text, .inr (7, [.ref q_t_text_bytes, .int v_t_text_length])), (q_t_text_bytes, .inl (cI, 200, .inl v_t_text_bytes)), (q_t_parts, .inl (cI, 3, .inl v_t_parts)), (q_a3, .inr (2, [.int v_a3_columns, .int v_a3_rows, .int v_a3_fade, .int v_a3_laws, .int v_a3_nightHours, .int v_a3_nightTimes, .ref q_a3_ground, .ref q_a3_windows, .ref q_a3_lawParts])), (q_a3_ground, .inl (cI, 36, .inl v_a3_ground)), (q_a3_windows, .inl (cI, 6, .inl v_a3_windows)), (q_a3_lawParts, .inl (cI, 18, .inl v_a3_lawParts))] sz) (QI D cI cJ cZ [(q_t, .inr (5, [.ref q_t_text, .int v_t_sort, .int v_t_start, .int v_t_end, .ref q_t_parts, .int v_t_lines])), (q_t_text, .inr (7, [.ref q_t_text_bytes, .int v_t_text_length])), (q_t_text_bytes, .inl (cI, 200, .inl v_t_text_bytes)), (q_t_parts, .inl (cI, 3, .inl v_t_parts)), (q_a3, .inr (2, [.int v_a3_columns, .int v_a3_rows, .int v_a3_fade, .int v_a3_laws, .int v_a3_nightHours, .int v_a3_nightTimes, .ref q_a3_ground, .ref q_a3_windows, .ref q_a3_lawParts])), (q_a3_ground, .inl (cI, 36, .inl v_a3_ground)), (q_a3_windows, .inl (cI, 6, .inl v_a3_windows)), (q_a3_lawParts, .inl (cI, 18, .inl v_a3_lawParts))] z (va_A [(q_t, .inr (5, [.ref q_t_text, .int v_t_sort, .int v_t_start, .int v_t_end, .ref q_t_parts, .int v_t_lines])), (q_t_text, .inr (7, [.ref q_t_text_bytes, .int v_t_text_length])), (q_t_text_bytes, .inl (cI, 200, .inl v_t_text_bytes)), (q_t_parts, .inl (cI, 3, .inl v_t_parts)), (q_a3, .inr (2, [.int v_a3_columns, .int v_a3_rows, .int v_a3_fade, .int v_a3_laws, .int v_a3_nightHours, .int v_a3_nightTimes, .ref q_a3_ground, .ref q_a3_windows, .ref q_a3_lawParts])), (q_a3_ground, .inl (cI, 36, .inl v_a3_ground)), (q_a3_windows, .inl (cI, 6, .inl v_a3_windows)), (q_a3_lawParts, .inl (cI, 18, .inl v_a3_lawParts))] sz)) 0 0 (va_A [(q_t, .inr (5, [.ref q_t_text, .int v_t_sort, .int v_t_start, .int v_t_end, .ref q_t_parts, .int v_t_lines])), (q_t_text, .inr (7, [.ref q_t_text_bytes, .int v_t_text_length])), (q_t_text_bytes, .inl (cI, 200, .inl v_t_text_bytes)), (q_t_parts, .inl (cI, 3, .inl v_t_parts)), (q_a3, .inr (2, [.int v_a3_columns, .int v_a3_rows, .int v_a3_fade, .int v_a3_laws, .int v_a3_nightHours, .int v_a3_nightTimes, .ref q_a3_ground, .ref q_a3_windows, .ref q_a3_lawParts])), (q_a3_ground, .inl (cI, 36, .inl v_a3_ground)), (q_a3_windows, .inl (cI, 6, .inl v_a3_windows)), (q_a3_lawParts, .inl (cI, 18, .inl v_a3_lawParts))] sz) := by
  refine mk_met (Qc := fun A => (QI D cI cJ cZ [(q_t, .inr (5, [.ref q_t_text, .int v_t_sort, .int v_t_start, .int v_t_end, .ref q_t_parts, .int v_t_lines])), (q_t_text, .inr (7, [.ref q_t_text_bytes, .int v_t_text_length])), (q_t_text_bytes, .inl (cI, 200, .inl v_t_text_bytes)), (q_t_parts, .inl (cI, 3, .inl v_t_parts)), (q_a3, .inr (2, [.int v_a3_columns, .int v_a3_rows, .int v_a3_fade, .int v_a3_laws, .int v_a3_nightHours, .int v_a3_nightTimes, .ref q_a3_ground, .ref q_a3_windows, .ref q_a3_lawParts])), (q_a3_ground, .inl (cI, 36, .inl v_a3_ground)), (q_a3_windows, .inl (cI, 6, .inl v_a3_windows)), (q_a3_lawParts, .inl (cI, 18, .inl v_a3_lawParts))] z A)) RX5 (by decide) rfl (Nat.le_of_ble_eq_true rfl) ?_
  intro p e s m below meth c ls A hx hb hr hml hown hts hlocks hA hK hE hl hD H locs hP hS
  have hl : lv_has ls 4 [(0, .ref q_t), (1, .int x1), (2, .int x2), (3, .ref q_a3)] := hl
  unfold f_X5_isWithin at hf
  refine lv_iload_n hx hb dX5_isWithin_0 rfl (lv_at hl 1 rfl) ?_
  by_cases h_1 : x1 = 65
  · have hf := (if_pos h_1).symm.trans hf
    refine lv_tableIn (off := 282) (tgt := 283) hx hb dX5_isWithin_1 (by rw [h_1]; decide) (by rw [h_1]; decide) (by rw [h_1]; rfl) (by decide) ?_
    refine lv_iload_n hx hb dX5_isWithin_283 rfl (lv_at hl 2 rfl) ?_
    refine lv_if_lt (tgt := 297) hx hb dX5_isWithin_284 (by decide) (fun h_2 => ?_) (fun h_2 => ?_)
    · have hf := (if_pos h_2).symm.trans hf
      refine lv_iconst (v := 0) hx hb dX5_isWithin_297 (by decide) ?_
      have hf := Option.some.inj hf
      subst hf
      exact rt_z hx hb hr hlocks hK hP hS (Or.inl rfl) dX5_isWithin_298
    · have hf := (if_neg h_2).symm.trans hf
      refine lv_iload_n hx hb dX5_isWithin_287 rfl (lv_at hl 2 rfl) ?_
      refine lv_bipush (v := 9) hx hb dX5_isWithin_288 (by decide) ?_
      refine lv_icmp_gt (tgt := 297) hx hb dX5_isWithin_290 (by decide) (fun h_3 => ?_) (fun h_3 => ?_)
      · have hf := (if_pos h_3).symm.trans hf
        refine lv_iconst (v := 0) hx hb dX5_isWithin_297 (by decide) ?_
        have hf := Option.some.inj hf
        subst hf
        exact rt_z hx hb hr hlocks hK hP hS (Or.inl rfl) dX5_isWithin_298
      · have hf := (if_neg h_3).symm.trans hf
        refine lv_iconst (v := 1) hx hb dX5_isWithin_293 (by decide) ?_
        refine lv_goto (tgt := 298) hx hb dX5_isWithin_294 (by decide) ?_
        have hf := Option.some.inj hf
        subst hf
        exact rt_z hx hb hr hlocks hK hP hS (Or.inr rfl) dX5_isWithin_298
  · have hf := (if_neg h_1).symm.trans hf
    by_cases h_4 : x1 = 68
    · have hf := (if_pos h_4).symm.trans hf
      refine lv_tableIn (off := 233) (tgt := 234) hx hb dX5_isWithin_1 (by rw [h_4]; decide) (by rw [h_4]; decide) (by rw [h_4]; rfl) (by decide) ?_
      refine lv_iload_n hx hb dX5_isWithin_234 rfl (lv_at hl 2 rfl) ?_
      refine lv_if_lt (tgt := 248) hx hb dX5_isWithin_235 (by decide) (fun h_5 => ?_) (fun h_5 => ?_)
      · have hf := (if_pos h_5).symm.trans hf
        refine lv_iconst (v := 0) hx hb dX5_isWithin_248 (by decide) ?_
        have hf := Option.some.inj hf
        subst hf
        exact rt_z hx hb hr hlocks hK hP hS (Or.inl rfl) dX5_isWithin_249
      · have hf := (if_neg h_5).symm.trans hf
        refine lv_iload_n hx hb dX5_isWithin_238 rfl (lv_at hl 2 rfl) ?_
        refine lv_bipush (v := 60) hx hb dX5_isWithin_239 (by decide) ?_
        refine lv_icmp_gt (tgt := 248) hx hb dX5_isWithin_241 (by decide) (fun h_6 => ?_) (fun h_6 => ?_)
        · have hf := (if_pos h_6).symm.trans hf
          refine lv_iconst (v := 0) hx hb dX5_isWithin_248 (by decide) ?_
          have hf := Option.some.inj hf
          subst hf
          exact rt_z hx hb hr hlocks hK hP hS (Or.inl rfl) dX5_isWithin_249
        · have hf := (if_neg h_6).symm.trans hf
          refine lv_iconst (v := 1) hx hb dX5_isWithin_244 (by decide) ?_
          refine lv_goto (tgt := 249) hx hb dX5_isWithin_245 (by decide) ?_
          have hf := Option.some.inj hf
          subst hf
          exact rt_z hx hb hr hlocks hK hP hS (Or.inr rfl) dX5_isWithin_249
    · have hf := (if_neg h_4).symm.trans hf
      by_cases h_7 : x1 = 70
      · have hf := (if_pos h_7).symm.trans hf
        refine lv_tableIn (off := 168) (tgt := 169) hx hb dX5_isWithin_1 (by rw [h_7]; decide) (by rw [h_7]; decide) (by rw [h_7]; rfl) (by decide) ?_
        refine lv_aload_n hx hb dX5_isWithin_169 rfl (lv_at hl 3 rfl) ?_
        refine lv_aload_n hx hb dX5_isWithin_170 rfl (lv_at hl 3 rfl) ?_
        refine lv_aload_n hx hb dX5_isWithin_171 rfl (lv_at hl 0 rfl) ?_
        refine va_get (D := D) (ci := 5) (v := .ref q_t_parts) (C := RX5) (T := TX5) (N := 6) hx hb hts inX5 hown hK hP 0 rfl rfl 4 (by decide) (hts _ w_108) (fun _ h9 => h9) rfl dX5_isWithin_172 ?_
        refine lv_iconst (v := 1) hx hb dX5_isWithin_175 (by decide) ?_
        obtain ⟨hin, hf⟩ := gd_some hf
        refine va_iald hx hb hK hP 3 0 rfl rfl hin dX5_isWithin_176 ?_
        refine lv_iload_n hx hb dX5_isWithin_177 rfl (lv_at hl 2 rfl) ?_
        obtain ⟨z178_8, hz178_8, hf⟩ := bd_some hf
        refine cVi (rest := [.ref q_a3]) ⟨hx, hb, hml, hown, hts⟩ hE hK hP hD hS hA (c_X2_cellAt l D cI cJ cZ en q_a3 q_a3_ground q_a3_windows q_a3_lawParts H.size v_a3_columns v_a3_rows v_a3_fade v_a3_laws v_a3_nightHours v_a3_nightTimes v_a3_ground v_a3_windows v_a3_lawParts (v_t_parts (Int32.toNatClampNeg 1)) x2 hz178_8) (gv_X2_cellAt w_456) hd_X2_cellAt ⟨rfl, rfl⟩ ⟨by decide, by decide⟩ [4, 5, 6, 7] (And.intro rfl (And.intro rfl (And.intro rfl (And.intro rfl trivial)))) rfl (And.intro rfl (And.intro rfl (And.intro rfl (And.intro rfl trivial)))) 2 rfl rfl 4 rfl  hl rfl (Nat.le_of_ble_eq_true rfl) ⟨Nat.zero_le _, Nat.zero_le _⟩ dX5_isWithin_178 (fun H locs hP hD hS => ?_)
        have hP : va_P D vwCl [(q_t, .inr (5, [.ref q_t_text, .int v_t_sort, .int v_t_start, .int v_t_end, .ref q_t_parts, .int v_t_lines])), (q_t_text, .inr (7, [.ref q_t_text_bytes, .int v_t_text_length])), (q_t_text_bytes, .inl (cI, 200, .inl v_t_text_bytes)), (q_t_parts, .inl (cI, 3, .inl v_t_parts)), (q_a3, .inr (2, [.int v_a3_columns, .int v_a3_rows, .int v_a3_fade, .int v_a3_laws, .int v_a3_nightHours, .int v_a3_nightTimes, .ref q_a3_ground, .ref q_a3_windows, .ref q_a3_lawParts])), (q_a3_ground, .inl (cI, 36, .inl v_a3_ground)), (q_a3_windows, .inl (cI, 6, .inl v_a3_windows)), (q_a3_lawParts, .inl (cI, 18, .inl v_a3_lawParts))] H := hP
        have hD : va_D A [(q_t, .inr (5, [.ref q_t_text, .int v_t_sort, .int v_t_start, .int v_t_end, .ref q_t_parts, .int v_t_lines])), (q_t_text, .inr (7, [.ref q_t_text_bytes, .int v_t_text_length])), (q_t_text_bytes, .inl (cI, 200, .inl v_t_text_bytes)), (q_t_parts, .inl (cI, 3, .inl v_t_parts)), (q_a3, .inr (2, [.int v_a3_columns, .int v_a3_rows, .int v_a3_fade, .int v_a3_laws, .int v_a3_nightHours, .int v_a3_nightTimes, .ref q_a3_ground, .ref q_a3_windows, .ref q_a3_lawParts])), (q_a3_ground, .inl (cI, 36, .inl v_a3_ground)), (q_a3_windows, .inl (cI, 6, .inl v_a3_windows)), (q_a3_lawParts, .inl (cI, 18, .inl v_a3_lawParts))] := hD
        obtain ⟨z181_9, hz181_9, hf⟩ := bd_some hf
        refine cVi (rest := []) ⟨hx, hb, hml, hown, hts⟩ hE hK hP hD hS hA (c_X2_isFloor l D cI cJ cZ en q_a3 q_a3_ground q_a3_windows q_a3_lawParts H.size v_a3_columns v_a3_rows v_a3_fade v_a3_laws v_a3_nightHours v_a3_nightTimes v_a3_ground v_a3_windows v_a3_lawParts z178_8 hz181_9) (gv_X2_isFloor w_460) hd_X2_isFloor ⟨rfl, rfl⟩ ⟨by decide, by decide⟩ [4, 5, 6, 7] (And.intro rfl (And.intro rfl (And.intro rfl (And.intro rfl trivial)))) rfl (And.intro rfl (And.intro rfl (And.intro rfl (And.intro rfl trivial)))) 2 rfl rfl 4 rfl  hl rfl (Nat.le_of_ble_eq_true rfl) ⟨Nat.zero_le _, Nat.zero_le _⟩ dX5_isWithin_181 (fun H locs hP hD hS => ?_)
        have hP : va_P D vwCl [(q_t, .inr (5, [.ref q_t_text, .int v_t_sort, .int v_t_start, .int v_t_end, .ref q_t_parts, .int v_t_lines])), (q_t_text, .inr (7, [.ref q_t_text_bytes, .int v_t_text_length])), (q_t_text_bytes, .inl (cI, 200, .inl v_t_text_bytes)), (q_t_parts, .inl (cI, 3, .inl v_t_parts)), (q_a3, .inr (2, [.int v_a3_columns, .int v_a3_rows, .int v_a3_fade, .int v_a3_laws, .int v_a3_nightHours, .int v_a3_nightTimes, .ref q_a3_ground, .ref q_a3_windows, .ref q_a3_lawParts])), (q_a3_ground, .inl (cI, 36, .inl v_a3_ground)), (q_a3_windows, .inl (cI, 6, .inl v_a3_windows)), (q_a3_lawParts, .inl (cI, 18, .inl v_a3_lawParts))] H := hP
        have hD : va_D A [(q_t, .inr (5, [.ref q_t_text, .int v_t_sort, .int v_t_start, .int v_t_end, .ref q_t_parts, .int v_t_lines])), (q_t_text, .inr (7, [.ref q_t_text_bytes, .int v_t_text_length])), (q_t_text_bytes, .inl (cI, 200, .inl v_t_text_bytes)), (q_t_parts, .inl (cI, 3, .inl v_t_parts)), (q_a3, .inr (2, [.int v_a3_columns, .int v_a3_rows, .int v_a3_fade, .int v_a3_laws, .int v_a3_nightHours, .int v_a3_nightTimes, .ref q_a3_ground, .ref q_a3_windows, .ref q_a3_lawParts])), (q_a3_ground, .inl (cI, 36, .inl v_a3_ground)), (q_a3_windows, .inl (cI, 6, .inl v_a3_windows)), (q_a3_lawParts, .inl (cI, 18, .inl v_a3_lawParts))] := hD
        obtain ⟨hin, hf⟩ := gd_some hf
        have hf := Option.some.inj hf
        subst hf
        exact rt_z hx hb hr hlocks hK hP hS hin dX5_isWithin_184
      · have hf := (if_neg h_7).symm.trans hf
        by_cases h_10 : x1 = 72
        · have hf := (if_pos h_10).symm.trans hf
          refine lv_tableIn (off := 249) (tgt := 250) hx hb dX5_isWithin_1 (by rw [h_10]; decide) (by rw [h_10]; decide) (by rw [h_10]; rfl) (by decide) ?_
          refine lv_iload_n hx hb dX5_isWithin_250 rfl (lv_at hl 2 rfl) ?_
          refine lv_if_lt (tgt := 264) hx hb dX5_isWithin_251 (by decide) (fun h_11 => ?_) (fun h_11 => ?_)
          · have hf := (if_pos h_11).symm.trans hf
            refine lv_iconst (v := 0) hx hb dX5_isWithin_264 (by decide) ?_
            have hf := Option.some.inj hf
            subst hf
            exact rt_z hx hb hr hlocks hK hP hS (Or.inl rfl) dX5_isWithin_265
          · have hf := (if_neg h_11).symm.trans hf
            refine lv_iload_n hx hb dX5_isWithin_254 rfl (lv_at hl 2 rfl) ?_
            refine lv_bipush (v := 24) hx hb dX5_isWithin_255 (by decide) ?_
            refine lv_icmp_ge (tgt := 264) hx hb dX5_isWithin_257 (by decide) (fun h_12 => ?_) (fun h_12 => ?_)
            · have hf := (if_pos h_12).symm.trans hf
              refine lv_iconst (v := 0) hx hb dX5_isWithin_264 (by decide) ?_
              have hf := Option.some.inj hf
              subst hf
              exact rt_z hx hb hr hlocks hK hP hS (Or.inl rfl) dX5_isWithin_265
            · have hf := (if_neg h_12).symm.trans hf
              refine lv_iconst (v := 1) hx hb dX5_isWithin_260 (by decide) ?_
              refine lv_goto (tgt := 265) hx hb dX5_isWithin_261 (by decide) ?_
              have hf := Option.some.inj hf
              subst hf
              exact rt_z hx hb hr hlocks hK hP hS (Or.inr rfl) dX5_isWithin_265
        · have hf := (if_neg h_10).symm.trans hf
          by_cases h_13 : x1 = 76
          · have hf := (if_pos h_13).symm.trans hf
            refine lv_tableIn (off := 216) (tgt := 217) hx hb dX5_isWithin_1 (by rw [h_13]; decide) (by rw [h_13]; decide) (by rw [h_13]; rfl) (by decide) ?_
            refine lv_iload_n hx hb dX5_isWithin_217 rfl (lv_at hl 2 rfl) ?_
            refine lv_iconst (v := 1) hx hb dX5_isWithin_218 (by decide) ?_
            refine lv_icmp_lt (tgt := 232) hx hb dX5_isWithin_219 (by decide) (fun h_14 => ?_) (fun h_14 => ?_)
            · have hf := (if_pos h_14).symm.trans hf
              refine lv_iconst (v := 0) hx hb dX5_isWithin_232 (by decide) ?_
              have hf := Option.some.inj hf
              subst hf
              exact rt_z hx hb hr hlocks hK hP hS (Or.inl rfl) dX5_isWithin_233
            · have hf := (if_neg h_14).symm.trans hf
              refine lv_iload_n hx hb dX5_isWithin_222 rfl (lv_at hl 2 rfl) ?_
              refine lv_bipush (v := 99) hx hb dX5_isWithin_223 (by decide) ?_
              refine lv_icmp_gt (tgt := 232) hx hb dX5_isWithin_225 (by decide) (fun h_15 => ?_) (fun h_15 => ?_)
              · have hf := (if_pos h_15).symm.trans hf
                refine lv_iconst (v := 0) hx hb dX5_isWithin_232 (by decide) ?_
                have hf := Option.some.inj hf
                subst hf
                exact rt_z hx hb hr hlocks hK hP hS (Or.inl rfl) dX5_isWithin_233
              · have hf := (if_neg h_15).symm.trans hf
                refine lv_iconst (v := 1) hx hb dX5_isWithin_228 (by decide) ?_
                refine lv_goto (tgt := 233) hx hb dX5_isWithin_229 (by decide) ?_
                have hf := Option.some.inj hf
                subst hf
                exact rt_z hx hb hr hlocks hK hP hS (Or.inr rfl) dX5_isWithin_233
          · have hf := (if_neg h_13).symm.trans hf
            by_cases h_16 : x1 = 78
            · have hf := (if_pos h_16).symm.trans hf
              refine lv_tableIn (off := 265) (tgt := 266) hx hb dX5_isWithin_1 (by rw [h_16]; decide) (by rw [h_16]; decide) (by rw [h_16]; rfl) (by decide) ?_
              refine lv_iload_n hx hb dX5_isWithin_266 rfl (lv_at hl 2 rfl) ?_
              refine lv_iconst (v := 1) hx hb dX5_isWithin_267 (by decide) ?_
              refine lv_icmp_lt (tgt := 281) hx hb dX5_isWithin_268 (by decide) (fun h_17 => ?_) (fun h_17 => ?_)
              · have hf := (if_pos h_17).symm.trans hf
                refine lv_iconst (v := 0) hx hb dX5_isWithin_281 (by decide) ?_
                have hf := Option.some.inj hf
                subst hf
                exact rt_z hx hb hr hlocks hK hP hS (Or.inl rfl) dX5_isWithin_282
              · have hf := (if_neg h_17).symm.trans hf
                refine lv_iload_n hx hb dX5_isWithin_271 rfl (lv_at hl 2 rfl) ?_
                refine lv_bipush (v := 9) hx hb dX5_isWithin_272 (by decide) ?_
                refine lv_icmp_gt (tgt := 281) hx hb dX5_isWithin_274 (by decide) (fun h_18 => ?_) (fun h_18 => ?_)
                · have hf := (if_pos h_18).symm.trans hf
                  refine lv_iconst (v := 0) hx hb dX5_isWithin_281 (by decide) ?_
                  have hf := Option.some.inj hf
                  subst hf
                  exact rt_z hx hb hr hlocks hK hP hS (Or.inl rfl) dX5_isWithin_282
                · have hf := (if_neg h_18).symm.trans hf
                  refine lv_iconst (v := 1) hx hb dX5_isWithin_277 (by decide) ?_
                  refine lv_goto (tgt := 282) hx hb dX5_isWithin_278 (by decide) ?_
                  have hf := Option.some.inj hf
                  subst hf
                  exact rt_z hx hb hr hlocks hK hP hS (Or.inr rfl) dX5_isWithin_282
            · have hf := (if_neg h_16).symm.trans hf
              by_cases h_19 : x1 = 83
              · have hf := (if_pos h_19).symm.trans hf
                refine lv_tableIn (off := 184) (tgt := 185) hx hb dX5_isWithin_1 (by rw [h_19]; decide) (by rw [h_19]; decide) (by rw [h_19]; rfl) (by decide) ?_
                refine lv_iload_n hx hb dX5_isWithin_185 rfl (lv_at hl 2 rfl) ?_
                refine lv_if_lt (tgt := 199) hx hb dX5_isWithin_186 (by decide) (fun h_20 => ?_) (fun h_20 => ?_)
                · have hf := (if_pos h_20).symm.trans hf
                  refine lv_iconst (v := 0) hx hb dX5_isWithin_199 (by decide) ?_
                  have hf := Option.some.inj hf
                  subst hf
                  exact rt_z hx hb hr hlocks hK hP hS (Or.inl rfl) dX5_isWithin_200
                · have hf := (if_neg h_20).symm.trans hf
                  refine lv_iload_n hx hb dX5_isWithin_189 rfl (lv_at hl 2 rfl) ?_
                  refine lv_bipush (v := 99) hx hb dX5_isWithin_190 (by decide) ?_
                  refine lv_icmp_gt (tgt := 199) hx hb dX5_isWithin_192 (by decide) (fun h_21 => ?_) (fun h_21 => ?_)
                  · have hf := (if_pos h_21).symm.trans hf
                    refine lv_iconst (v := 0) hx hb dX5_isWithin_199 (by decide) ?_
                    have hf := Option.some.inj hf
                    subst hf
                    exact rt_z hx hb hr hlocks hK hP hS (Or.inl rfl) dX5_isWithin_200
                  · have hf := (if_neg h_21).symm.trans hf
                    refine lv_iconst (v := 1) hx hb dX5_isWithin_195 (by decide) ?_
                    refine lv_goto (tgt := 200) hx hb dX5_isWithin_196 (by decide) ?_
                    have hf := Option.some.inj hf
                    subst hf
                    exact rt_z hx hb hr hlocks hK hP hS (Or.inr rfl) dX5_isWithin_200
              · have hf := (if_neg h_19).symm.trans hf
                by_cases h_22 : x1 = 84
                · have hf := (if_pos h_22).symm.trans hf
                  refine lv_tableIn (off := 200) (tgt := 201) hx hb dX5_isWithin_1 (by rw [h_22]; decide) (by rw [h_22]; decide) (by rw [h_22]; rfl) (by decide) ?_
                  refine lv_iload_n hx hb dX5_isWithin_201 rfl (lv_at hl 2 rfl) ?_
                  refine lv_if_lt (tgt := 215) hx hb dX5_isWithin_202 (by decide) (fun h_23 => ?_) (fun h_23 => ?_)
                  · have hf := (if_pos h_23).symm.trans hf
                    refine lv_iconst (v := 0) hx hb dX5_isWithin_215 (by decide) ?_
                    have hf := Option.some.inj hf
                    subst hf
                    exact rt_z hx hb hr hlocks hK hP hS (Or.inl rfl) dX5_isWithin_216
                  · have hf := (if_neg h_23).symm.trans hf
                    refine lv_iload_n hx hb dX5_isWithin_205 rfl (lv_at hl 2 rfl) ?_
                    refine lv_bipush (v := 6) hx hb dX5_isWithin_206 (by decide) ?_
                    refine lv_icmp_ge (tgt := 215) hx hb dX5_isWithin_208 (by decide) (fun h_24 => ?_) (fun h_24 => ?_)
                    · have hf := (if_pos h_24).symm.trans hf
                      refine lv_iconst (v := 0) hx hb dX5_isWithin_215 (by decide) ?_
                      have hf := Option.some.inj hf
                      subst hf
                      exact rt_z hx hb hr hlocks hK hP hS (Or.inl rfl) dX5_isWithin_216
                    · have hf := (if_neg h_24).symm.trans hf
                      refine lv_iconst (v := 1) hx hb dX5_isWithin_211 (by decide) ?_
                      refine lv_goto (tgt := 216) hx hb dX5_isWithin_212 (by decide) ?_
                      have hf := Option.some.inj hf
                      subst hf
                      exact rt_z hx hb hr hlocks hK hP hS (Or.inr rfl) dX5_isWithin_216
                · have hf := (if_neg h_22).symm.trans hf
                  by_cases h_25 : x1 = 87
                  · have hf := (if_pos h_25).symm.trans hf
                    refine lv_tableIn (off := 115) (tgt := 116) hx hb dX5_isWithin_1 (by rw [h_25]; decide) (by rw [h_25]; decide) (by rw [h_25]; rfl) (by decide) ?_
                    refine lv_iload_n hx hb dX5_isWithin_116 rfl (lv_at hl 2 rfl) ?_
                    refine lv_iconst (v := 1) hx hb dX5_isWithin_117 (by decide) ?_
                    refine lv_icmp_lt (tgt := 131) hx hb dX5_isWithin_118 (by decide) (fun h_26 => ?_) (fun h_26 => ?_)
                    · have hf := (if_pos h_26).symm.trans hf
                      refine lv_iconst (v := 0) hx hb dX5_isWithin_131 (by decide) ?_
                      have hf := Option.some.inj hf
                      subst hf
                      exact rt_z hx hb hr hlocks hK hP hS (Or.inl rfl) dX5_isWithin_132
                    · have hf := (if_neg h_26).symm.trans hf
                      refine lv_iload_n hx hb dX5_isWithin_121 rfl (lv_at hl 2 rfl) ?_
                      refine lv_bipush (v := 6) hx hb dX5_isWithin_122 (by decide) ?_
                      refine lv_icmp_gt (tgt := 131) hx hb dX5_isWithin_124 (by decide) (fun h_27 => ?_) (fun h_27 => ?_)
                      · have hf := (if_pos h_27).symm.trans hf
                        refine lv_iconst (v := 0) hx hb dX5_isWithin_131 (by decide) ?_
                        have hf := Option.some.inj hf
                        subst hf
                        exact rt_z hx hb hr hlocks hK hP hS (Or.inl rfl) dX5_isWithin_132
                      · have hf := (if_neg h_27).symm.trans hf
                        refine lv_iconst (v := 1) hx hb dX5_isWithin_127 (by decide) ?_
                        refine lv_goto (tgt := 132) hx hb dX5_isWithin_128 (by decide) ?_
                        have hf := Option.some.inj hf
                        subst hf
                        exact rt_z hx hb hr hlocks hK hP hS (Or.inr rfl) dX5_isWithin_132
                  · have hf := (if_neg h_25).symm.trans hf
                    by_cases h_28 : x1 = 88
                    · have hf := (if_pos h_28).symm.trans hf
                      refine lv_tableIn (off := 132) (tgt := 133) hx hb dX5_isWithin_1 (by rw [h_28]; decide) (by rw [h_28]; decide) (by rw [h_28]; rfl) (by decide) ?_
                      refine lv_iload_n hx hb dX5_isWithin_133 rfl (lv_at hl 2 rfl) ?_
                      refine lv_if_lt (tgt := 149) hx hb dX5_isWithin_134 (by decide) (fun h_29 => ?_) (fun h_29 => ?_)
                      · have hf := (if_pos h_29).symm.trans hf
                        refine lv_iconst (v := 0) hx hb dX5_isWithin_149 (by decide) ?_
                        have hf := Option.some.inj hf
                        subst hf
                        exact rt_z hx hb hr hlocks hK hP hS (Or.inl rfl) dX5_isWithin_150
                      · have hf := (if_neg h_29).symm.trans hf
                        refine lv_iload_n hx hb dX5_isWithin_137 rfl (lv_at hl 2 rfl) ?_
                        refine lv_aload_n hx hb dX5_isWithin_138 rfl (lv_at hl 3 rfl) ?_
                        refine va_get (D := D) (ci := 2) (v := .int v_a3_columns) (C := RX2) (T := TX2) (N := 9) hx hb hts inX2 hown hK hP 4 rfl rfl 0 (by decide) (hts _ w_134) (fun _ h9 => h9) rfl dX5_isWithin_139 ?_
                        refine lv_icmp_ge (tgt := 149) hx hb dX5_isWithin_142 (by decide) (fun h_30 => ?_) (fun h_30 => ?_)
                        · have hf := (if_pos h_30).symm.trans hf
                          refine lv_iconst (v := 0) hx hb dX5_isWithin_149 (by decide) ?_
                          have hf := Option.some.inj hf
                          subst hf
                          exact rt_z hx hb hr hlocks hK hP hS (Or.inl rfl) dX5_isWithin_150
                        · have hf := (if_neg h_30).symm.trans hf
                          refine lv_iconst (v := 1) hx hb dX5_isWithin_145 (by decide) ?_
                          refine lv_goto (tgt := 150) hx hb dX5_isWithin_146 (by decide) ?_
                          have hf := Option.some.inj hf
                          subst hf
                          exact rt_z hx hb hr hlocks hK hP hS (Or.inr rfl) dX5_isWithin_150
                    · have hf := (if_neg h_28).symm.trans hf
                      by_cases h_31 : x1 = 89
                      · have hf := (if_pos h_31).symm.trans hf
                        refine lv_tableIn (off := 150) (tgt := 151) hx hb dX5_isWithin_1 (by rw [h_31]; decide) (by rw [h_31]; decide) (by rw [h_31]; rfl) (by decide) ?_
                        refine lv_iload_n hx hb dX5_isWithin_151 rfl (lv_at hl 2 rfl) ?_
                        refine lv_if_lt (tgt := 167) hx hb dX5_isWithin_152 (by decide) (fun h_32 => ?_) (fun h_32 => ?_)
                        · have hf := (if_pos h_32).symm.trans hf
                          refine lv_iconst (v := 0) hx hb dX5_isWithin_167 (by decide) ?_
                          have hf := Option.some.inj hf
                          subst hf
                          exact rt_z hx hb hr hlocks hK hP hS (Or.inl rfl) dX5_isWithin_168
                        · have hf := (if_neg h_32).symm.trans hf
                          refine lv_iload_n hx hb dX5_isWithin_155 rfl (lv_at hl 2 rfl) ?_
                          refine lv_aload_n hx hb dX5_isWithin_156 rfl (lv_at hl 3 rfl) ?_
                          refine va_get (D := D) (ci := 2) (v := .int v_a3_rows) (C := RX2) (T := TX2) (N := 9) hx hb hts inX2 hown hK hP 4 rfl rfl 1 (by decide) (hts _ w_137) (fun _ h9 => h9) rfl dX5_isWithin_157 ?_
                          refine lv_icmp_ge (tgt := 167) hx hb dX5_isWithin_160 (by decide) (fun h_33 => ?_) (fun h_33 => ?_)
                          · have hf := (if_pos h_33).symm.trans hf
                            refine lv_iconst (v := 0) hx hb dX5_isWithin_167 (by decide) ?_
                            have hf := Option.some.inj hf
                            subst hf
                            exact rt_z hx hb hr hlocks hK hP hS (Or.inl rfl) dX5_isWithin_168
                          · have hf := (if_neg h_33).symm.trans hf
                            refine lv_iconst (v := 1) hx hb dX5_isWithin_163 (by decide) ?_
                            refine lv_goto (tgt := 168) hx hb dX5_isWithin_164 (by decide) ?_
                            have hf := Option.some.inj hf
                            subst hf
                            exact rt_z hx hb hr hlocks hK hP hS (Or.inr rfl) dX5_isWithin_168
                      · have hf := (if_neg h_31).symm.trans hf
                        refine tb_out2 (tgt := 299) hx hb dX5_isWithin_1 rfl [65, 68, 70, 72, 76, 78, 83, 84, 87, 88, 89] (List.forall_mem_cons.mpr ⟨h_1, List.forall_mem_cons.mpr ⟨h_4, List.forall_mem_cons.mpr ⟨h_7, List.forall_mem_cons.mpr ⟨h_10, List.forall_mem_cons.mpr ⟨h_13, List.forall_mem_cons.mpr ⟨h_16, List.forall_mem_cons.mpr ⟨h_19, List.forall_mem_cons.mpr ⟨h_22, List.forall_mem_cons.mpr ⟨h_25, List.forall_mem_cons.mpr ⟨h_28, List.forall_mem_cons.mpr ⟨h_31, fun _ h9 => absurd h9 List.not_mem_nil⟩⟩⟩⟩⟩⟩⟩⟩⟩⟩⟩) (by decide +kernel) (by decide) ?_
                        refine lv_iconst (v := 0) hx hb dX5_isWithin_299 (by decide) ?_
                        have hf := Option.some.inj hf
                        subst hf
                        exact rt_z hx hb hr hlocks hK hP hS (Or.inl rfl) dX5_isWithin_300

def f_X5_carryOut (v_t_parts : Nat → Int32) (v_a2_columns : Int32) (v_a2_rows : Int32) (v_a2_fade : Int32) (v_a2_laws : Int32) (v_a2_nightHours : Int32) (v_a2_nightTimes : Int32) (v_a2_ground : Nat → Int32) (v_a2_windows : Nat → Int32) (v_a2_lawParts : Nat → Int32) (x1 : Int32) : Option (Int32 × Int32 × Int32 × Int32 × Int32 × Int32 × (Nat → Int32) × (Nat → Int32) × (Nat → Int32)) :=
  gd (ib 0 3) (gd (ib 1 3) (gd (ib 2 3) ((if x1 = 1 then (f_X2_lay v_a2_columns v_a2_rows v_a2_ground v_a2_windows (v_t_parts (Int32.toNatClampNeg 0)) (v_t_parts (Int32.toNatClampNeg 1))).bind (fun z80 => (some (z80.1, z80.2.1, v_a2_fade, v_a2_laws, v_a2_nightHours, v_a2_nightTimes, z80.2.2.1, z80.2.2.2, v_a2_lawParts))) else (if x1 = 2 then (f_X2_cellAt v_a2_columns v_a2_rows (v_t_parts (Int32.toNatClampNeg 0)) (v_t_parts (Int32.toNatClampNeg 1))).bind (fun z91 => (f_X2_putRock v_a2_columns v_a2_rows v_a2_ground v_a2_windows z91 (v_t_parts (Int32.toNatClampNeg 2))).bind (fun z96 => (some (v_a2_columns, v_a2_rows, v_a2_fade, v_a2_laws, v_a2_nightHours, v_a2_nightTimes, z96.1, z96.2, v_a2_lawParts)))) else (if x1 = 3 then (f_X2_cellAt v_a2_columns v_a2_rows (v_t_parts (Int32.toNatClampNeg 0)) (v_t_parts (Int32.toNatClampNeg 1))).bind (fun z107 => (f_X2_putFloor v_a2_columns v_a2_rows v_a2_ground z107).bind (fun z110 => (some (v_a2_columns, v_a2_rows, v_a2_fade, v_a2_laws, v_a2_nightHours, v_a2_nightTimes, z110, v_a2_windows, v_a2_lawParts)))) else (if x1 = 4 then (f_X2_cellAt v_a2_columns v_a2_rows (v_t_parts (Int32.toNatClampNeg 1)) (v_t_parts (Int32.toNatClampNeg 2))).bind (fun z123 => (f_X2_place v_a2_windows (v_t_parts (Int32.toNatClampNeg 0)) z123).bind (fun z126 => (some (v_a2_columns, v_a2_rows, v_a2_fade, v_a2_laws, v_a2_nightHours, v_a2_nightTimes, v_a2_ground, z126, v_a2_lawParts)))) else (if x1 = 5 then (f_X2_place v_a2_windows (v_t_parts (Int32.toNatClampNeg 0)) (-1)).bind (fun z135 => (some (v_a2_columns, v_a2_rows, v_a2_fade, v_a2_laws, v_a2_nightHours, v_a2_nightTimes, v_a2_ground, z135, v_a2_lawParts))) else (if x1 = 6 then (f_X2_addLaw v_a2_laws v_a2_lawParts (v_t_parts (Int32.toNatClampNeg 0)) (v_t_parts (Int32.toNatClampNeg 1)) (v_t_parts (Int32.toNatClampNeg 2))).bind (fun z147 => (some (v_a2_columns, v_a2_rows, v_a2_fade, z147.1, v_a2_nightHours, v_a2_nightTimes, v_a2_ground, v_a2_windows, z147.2))) else (if x1 = 7 then (some (v_a2_columns, v_a2_rows, v_a2_fade, 0, v_a2_nightHours, v_a2_nightTimes, v_a2_ground, v_a2_windows, v_a2_lawParts)) else (if x1 = 8 then (f_X2_setNight v_a2_nightHours v_a2_nightTimes (v_t_parts (Int32.toNatClampNeg 0)) (v_t_parts (Int32.toNatClampNeg 1)) (v_t_parts (Int32.toNatClampNeg 2))).bind (fun z167 => (some (v_a2_columns, v_a2_rows, v_a2_fade, v_a2_laws, z167.1, z167.2, v_a2_ground, v_a2_windows, v_a2_lawParts))) else (if x1 = 9 then (some (v_a2_columns, v_a2_rows, (v_t_parts (Int32.toNatClampNeg 0)), v_a2_laws, v_a2_nightHours, v_a2_nightTimes, v_a2_ground, v_a2_windows, v_a2_lawParts)) else (some (v_a2_columns, v_a2_rows, v_a2_fade, v_a2_laws, v_a2_nightHours, v_a2_nightTimes, v_a2_ground, v_a2_windows, v_a2_lawParts))))))))))))))
theorem gv_X5_carryOut {own : String} {idx : Nat} (h : Cond.methodLink own idx yX5_carryOut ∈ lw_g) : GoodIn lw_g (wsV own idx RX5 yX5_carryOut (Cond.code yX5_carryOut cX5_carryOut 6 none :: lw_g)) := gV h w_470 w_8 w_59 w_471
theorem hd_X5_carryOut : yX5_carryOut.cls = RX5 ∧ yX5_carryOut.cls ≠ "java/lang/invoke/MethodHandle" ∧ yX5_carryOut.cls ≠ "java/lang/invoke/VarHandle" ∧ (parseMethodDescriptor yX5_carryOut.desc).map (fun d => d.parameters.length) = some 2 := by decide +kernel
set_option maxHeartbeats 4000000 in
set_option maxRecDepth 100000 in
theorem c_X5_carryOut (l : Launch) (D : va_G) (cI cJ cZ : ClassId) (en : EnT) (q_t q_t_text q_t_parts q_t_text_bytes q_a2 q_a2_ground q_a2_windows q_a2_lawParts : Nat) (sz : Nat) (v_t_sort : Int32) (v_t_start : Int32) (v_t_end : Int32) (v_t_lines : Int32) (v_t_text_length : Int32) (v_t_text_bytes : Nat → Int32) (v_t_parts : Nat → Int32) (v_a2_columns : Int32) (v_a2_rows : Int32) (v_a2_fade : Int32) (v_a2_laws : Int32) (v_a2_nightHours : Int32) (v_a2_nightTimes : Int32) (v_a2_ground : Nat → Int32) (v_a2_windows : Nat → Int32) (v_a2_lawParts : Nat → Int32) (x1 : Int32) {z : Int32 × Int32 × Int32 × Int32 × Int32 × Int32 × (Nat → Int32) × (Nat → Int32) × (Nat → Int32)} (hf : f_X5_carryOut v_t_parts v_a2_columns v_a2_rows v_a2_fade v_a2_laws v_a2_nightHours v_a2_nightTimes v_a2_ground v_a2_windows v_a2_lawParts x1 = some z) : Met l yX5_carryOut (Cond.code yX5_carryOut cX5_carryOut 6 none :: lw_g) ({ frames := 2, cells := 0, slots := 0, locals := 45 } : Room) (PC D cI cJ cZ en ([.ref q_t, .int x1, .ref q_a2] : List Value) [(q_t, .inr (5, [.ref q_t_text, .int v_t_sort, .int v_t_start, .int v_t_end, .ref q_t_parts, .int v_t_lines])), (q_t_text, .inr (7, [.ref q_t_text_bytes, .int v_t_text_length])), (q_t_text_bytes, .inl (cI, 200, .inl v_t_text_bytes)), (q_t_parts, .inl (cI, 3, .inl v_t_parts)), (q_a2, .inr (2, [.int v_a2_columns, .int v_a2_rows, .int v_a2_fade, .int v_a2_laws, .int v_a2_nightHours, .int v_a2_nightTimes, .ref q_a2_ground, .ref q_a2_windows, .ref q_a2_lawParts])), (q_a2_ground, .inl (cI, 36, .inl v_a2_ground)), (q_a2_windows, .inl (cI, 6, .inl v_a2_windows)), (q_a2_lawParts, .inl (cI, 18, .inl v_a2_lawParts))] sz) (QV D cI cJ cZ [(q_t, .inr (5, [.ref q_t_text, .int v_t_sort, .int v_t_start, .int v_t_end, .ref q_t_parts, .int v_t_lines])), (q_t_text, .inr (7, [.ref q_t_text_bytes, .int v_t_text_length])), (q_t_text_bytes, .inl (cI, 200, .inl v_t_text_bytes)), (q_t_parts, .inl (cI, 3, .inl v_t_parts)), (q_a2, .inr (2, [.int z.1, .int z.2.1, .int z.2.2.1, .int z.2.2.2.1, .int z.2.2.2.2.1, .int z.2.2.2.2.2.1, .ref q_a2_ground, .ref q_a2_windows, .ref q_a2_lawParts])), (q_a2_ground, .inl (cI, 36, .inl z.2.2.2.2.2.2.1)), (q_a2_windows, .inl (cI, 6, .inl z.2.2.2.2.2.2.2.1)), (q_a2_lawParts, .inl (cI, 18, .inl z.2.2.2.2.2.2.2.2))] (va_A [(q_t, .inr (5, [.ref q_t_text, .int v_t_sort, .int v_t_start, .int v_t_end, .ref q_t_parts, .int v_t_lines])), (q_t_text, .inr (7, [.ref q_t_text_bytes, .int v_t_text_length])), (q_t_text_bytes, .inl (cI, 200, .inl v_t_text_bytes)), (q_t_parts, .inl (cI, 3, .inl v_t_parts)), (q_a2, .inr (2, [.int v_a2_columns, .int v_a2_rows, .int v_a2_fade, .int v_a2_laws, .int v_a2_nightHours, .int v_a2_nightTimes, .ref q_a2_ground, .ref q_a2_windows, .ref q_a2_lawParts])), (q_a2_ground, .inl (cI, 36, .inl v_a2_ground)), (q_a2_windows, .inl (cI, 6, .inl v_a2_windows)), (q_a2_lawParts, .inl (cI, 18, .inl v_a2_lawParts))] sz)) 0 0 (va_A [(q_t, .inr (5, [.ref q_t_text, .int v_t_sort, .int v_t_start, .int v_t_end, .ref q_t_parts, .int v_t_lines])), (q_t_text, .inr (7, [.ref q_t_text_bytes, .int v_t_text_length])), (q_t_text_bytes, .inl (cI, 200, .inl v_t_text_bytes)), (q_t_parts, .inl (cI, 3, .inl v_t_parts)), (q_a2, .inr (2, [.int v_a2_columns, .int v_a2_rows, .int v_a2_fade, .int v_a2_laws, .int v_a2_nightHours, .int v_a2_nightTimes, .ref q_a2_ground, .ref q_a2_windows, .ref q_a2_lawParts])), (q_a2_ground, .inl (cI, 36, .inl v_a2_ground)), (q_a2_windows, .inl (cI, 6, .inl v_a2_windows)), (q_a2_lawParts, .inl (cI, 18, .inl v_a2_lawParts))] sz) := by
  refine mk_met (Qc := fun A => (QV D cI cJ cZ [(q_t, .inr (5, [.ref q_t_text, .int v_t_sort, .int v_t_start, .int v_t_end, .ref q_t_parts, .int v_t_lines])), (q_t_text, .inr (7, [.ref q_t_text_bytes, .int v_t_text_length])), (q_t_text_bytes, .inl (cI, 200, .inl v_t_text_bytes)), (q_t_parts, .inl (cI, 3, .inl v_t_parts)), (q_a2, .inr (2, [.int z.1, .int z.2.1, .int z.2.2.1, .int z.2.2.2.1, .int z.2.2.2.2.1, .int z.2.2.2.2.2.1, .ref q_a2_ground, .ref q_a2_windows, .ref q_a2_lawParts])), (q_a2_ground, .inl (cI, 36, .inl z.2.2.2.2.2.2.1)), (q_a2_windows, .inl (cI, 6, .inl z.2.2.2.2.2.2.2.1)), (q_a2_lawParts, .inl (cI, 18, .inl z.2.2.2.2.2.2.2.2))] A)) RX5 (by decide) rfl (Nat.le_of_ble_eq_true rfl) ?_
  intro p e s m below meth c ls A hx hb hr hml hown hts hlocks hA hK hE hl hD H locs hP hS
  have hl : lv_has ls 6 [(0, .ref q_t), (1, .int x1), (2, .ref q_a2)] := hl
  unfold f_X5_carryOut at hf
  refine lv_aload_n hx hb dX5_carryOut_0 rfl (lv_at hl 0 rfl) ?_
  refine va_get (D := D) (ci := 5) (v := .ref q_t_parts) (C := RX5) (T := TX5) (N := 6) hx hb hts inX5 hown hK hP 0 rfl rfl 4 (by decide) (hts _ w_108) (fun _ h9 => h9) rfl dX5_carryOut_1 ?_
  refine lv_iconst (v := 0) hx hb dX5_carryOut_4 (by decide) ?_
  obtain ⟨hin, hf⟩ := gd_some hf
  refine va_iald hx hb hK hP 3 0 rfl rfl hin dX5_carryOut_5 ?_
  refine lv_istore_n (lv' := [(3, .int (v_t_parts (Int32.toNatClampNeg 0))), (0, .ref q_t), (1, .int x1), (2, .ref q_a2)]) hx hb dX5_carryOut_6 rfl hl (by decide) rfl (fun ls hl => ?_)
  refine lv_aload_n hx hb dX5_carryOut_7 rfl (lv_at hl 1 rfl) ?_
  refine va_get (D := D) (ci := 5) (v := .ref q_t_parts) (C := RX5) (T := TX5) (N := 6) hx hb hts inX5 hown hK hP 0 rfl rfl 4 (by decide) (hts _ w_108) (fun _ h9 => h9) rfl dX5_carryOut_8 ?_
  refine lv_iconst (v := 1) hx hb dX5_carryOut_11 (by decide) ?_
  obtain ⟨hin, hf⟩ := gd_some hf
  refine va_iald hx hb hK hP 3 0 rfl rfl hin dX5_carryOut_12 ?_
  refine lv_istore (lv' := [(4, .int (v_t_parts (Int32.toNatClampNeg 1))), (3, .int (v_t_parts (Int32.toNatClampNeg 0))), (0, .ref q_t), (1, .int x1), (2, .ref q_a2)]) hx hb dX5_carryOut_13 hl (by decide) rfl (fun ls hl => ?_)
  refine lv_aload_n hx hb dX5_carryOut_15 rfl (lv_at hl 2 rfl) ?_
  refine va_get (D := D) (ci := 5) (v := .ref q_t_parts) (C := RX5) (T := TX5) (N := 6) hx hb hts inX5 hown hK hP 0 rfl rfl 4 (by decide) (hts _ w_108) (fun _ h9 => h9) rfl dX5_carryOut_16 ?_
  refine lv_iconst (v := 2) hx hb dX5_carryOut_19 (by decide) ?_
  obtain ⟨hin, hf⟩ := gd_some hf
  refine va_iald hx hb hK hP 3 0 rfl rfl hin dX5_carryOut_20 ?_
  refine lv_istore (lv' := [(5, .int (v_t_parts (Int32.toNatClampNeg 2))), (4, .int (v_t_parts (Int32.toNatClampNeg 1))), (3, .int (v_t_parts (Int32.toNatClampNeg 0))), (0, .ref q_t), (1, .int x1), (2, .ref q_a2)]) hx hb dX5_carryOut_21 hl (by decide) rfl (fun ls hl => ?_)
  refine lv_iload_n hx hb dX5_carryOut_23 rfl (lv_at hl 4 rfl) ?_
  by_cases h_1 : x1 = 1
  · have hf := (if_pos h_1).symm.trans hf
    refine lv_tableIn (off := 52) (tgt := 76) hx hb dX5_carryOut_24 (by rw [h_1]; decide) (by rw [h_1]; decide) (by rw [h_1]; rfl) (by decide) ?_
    refine lv_aload_n hx hb dX5_carryOut_76 rfl (lv_at hl 5 rfl) ?_
    refine lv_iload_n hx hb dX5_carryOut_77 rfl (lv_at hl 2 rfl) ?_
    refine lv_iload hx hb dX5_carryOut_78 (lv_at hl 1 rfl) ?_
    obtain ⟨z80_2, hz80_2, hf⟩ := bd_some hf
    refine cVv (rest := []) ⟨hx, hb, hml, hown, hts⟩ hE hK hP hD hS hA (c_X2_lay l D cI cJ cZ en q_a2 q_a2_ground q_a2_windows q_a2_lawParts H.size v_a2_columns v_a2_rows v_a2_fade v_a2_laws v_a2_nightHours v_a2_nightTimes v_a2_ground v_a2_windows v_a2_lawParts (v_t_parts (Int32.toNatClampNeg 0)) (v_t_parts (Int32.toNatClampNeg 1)) hz80_2) (gv_X2_lay w_472) hd_X2_lay ⟨rfl, rfl⟩ ⟨by decide, by decide⟩ [4, 5, 6, 7] (And.intro rfl (And.intro rfl (And.intro rfl (And.intro rfl trivial)))) rfl (And.intro rfl (And.intro rfl (And.intro rfl (And.intro rfl trivial)))) 2 rfl rfl 4 rfl  hl rfl (Nat.le_of_ble_eq_true rfl) ⟨Nat.zero_le _, Nat.zero_le _⟩ dX5_carryOut_80 (fun H locs hP hD hS => ?_)
    have hP : va_P D vwCl [(q_t, .inr (5, [.ref q_t_text, .int v_t_sort, .int v_t_start, .int v_t_end, .ref q_t_parts, .int v_t_lines])), (q_t_text, .inr (7, [.ref q_t_text_bytes, .int v_t_text_length])), (q_t_text_bytes, .inl (cI, 200, .inl v_t_text_bytes)), (q_t_parts, .inl (cI, 3, .inl v_t_parts)), (q_a2, .inr (2, [.int z80_2.1, .int z80_2.2.1, .int v_a2_fade, .int v_a2_laws, .int v_a2_nightHours, .int v_a2_nightTimes, .ref q_a2_ground, .ref q_a2_windows, .ref q_a2_lawParts])), (q_a2_ground, .inl (cI, 36, .inl z80_2.2.2.1)), (q_a2_windows, .inl (cI, 6, .inl z80_2.2.2.2)), (q_a2_lawParts, .inl (cI, 18, .inl v_a2_lawParts))] H := hP
    have hD : va_D A [(q_t, .inr (5, [.ref q_t_text, .int v_t_sort, .int v_t_start, .int v_t_end, .ref q_t_parts, .int v_t_lines])), (q_t_text, .inr (7, [.ref q_t_text_bytes, .int v_t_text_length])), (q_t_text_bytes, .inl (cI, 200, .inl v_t_text_bytes)), (q_t_parts, .inl (cI, 3, .inl v_t_parts)), (q_a2, .inr (2, [.int z80_2.1, .int z80_2.2.1, .int v_a2_fade, .int v_a2_laws, .int v_a2_nightHours, .int v_a2_nightTimes, .ref q_a2_ground, .ref q_a2_windows, .ref q_a2_lawParts])), (q_a2_ground, .inl (cI, 36, .inl z80_2.2.2.1)), (q_a2_windows, .inl (cI, 6, .inl z80_2.2.2.2)), (q_a2_lawParts, .inl (cI, 18, .inl v_a2_lawParts))] := hD
    refine lv_goto (tgt := 181) hx hb dX5_carryOut_83 (by decide) ?_
    have hf := Option.some.inj hf
    subst hf
    exact rt_v hx hb hr hlocks hK hP hS dX5_carryOut_181
  · have hf := (if_neg h_1).symm.trans hf
    by_cases h_3 : x1 = 2
    · have hf := (if_pos h_3).symm.trans hf
      refine lv_tableIn (off := 62) (tgt := 86) hx hb dX5_carryOut_24 (by rw [h_3]; decide) (by rw [h_3]; decide) (by rw [h_3]; rfl) (by decide) ?_
      refine lv_aload_n hx hb dX5_carryOut_86 rfl (lv_at hl 5 rfl) ?_
      refine lv_aload_n hx hb dX5_carryOut_87 rfl (lv_at hl 5 rfl) ?_
      refine lv_iload_n hx hb dX5_carryOut_88 rfl (lv_at hl 2 rfl) ?_
      refine lv_iload hx hb dX5_carryOut_89 (lv_at hl 1 rfl) ?_
      obtain ⟨z91_4, hz91_4, hf⟩ := bd_some hf
      refine cVi (rest := [.ref q_a2]) ⟨hx, hb, hml, hown, hts⟩ hE hK hP hD hS hA (c_X2_cellAt l D cI cJ cZ en q_a2 q_a2_ground q_a2_windows q_a2_lawParts H.size v_a2_columns v_a2_rows v_a2_fade v_a2_laws v_a2_nightHours v_a2_nightTimes v_a2_ground v_a2_windows v_a2_lawParts (v_t_parts (Int32.toNatClampNeg 0)) (v_t_parts (Int32.toNatClampNeg 1)) hz91_4) (gv_X2_cellAt w_456) hd_X2_cellAt ⟨rfl, rfl⟩ ⟨by decide, by decide⟩ [4, 5, 6, 7] (And.intro rfl (And.intro rfl (And.intro rfl (And.intro rfl trivial)))) rfl (And.intro rfl (And.intro rfl (And.intro rfl (And.intro rfl trivial)))) 2 rfl rfl 4 rfl  hl rfl (Nat.le_of_ble_eq_true rfl) ⟨Nat.zero_le _, Nat.zero_le _⟩ dX5_carryOut_91 (fun H locs hP hD hS => ?_)
      have hP : va_P D vwCl [(q_t, .inr (5, [.ref q_t_text, .int v_t_sort, .int v_t_start, .int v_t_end, .ref q_t_parts, .int v_t_lines])), (q_t_text, .inr (7, [.ref q_t_text_bytes, .int v_t_text_length])), (q_t_text_bytes, .inl (cI, 200, .inl v_t_text_bytes)), (q_t_parts, .inl (cI, 3, .inl v_t_parts)), (q_a2, .inr (2, [.int v_a2_columns, .int v_a2_rows, .int v_a2_fade, .int v_a2_laws, .int v_a2_nightHours, .int v_a2_nightTimes, .ref q_a2_ground, .ref q_a2_windows, .ref q_a2_lawParts])), (q_a2_ground, .inl (cI, 36, .inl v_a2_ground)), (q_a2_windows, .inl (cI, 6, .inl v_a2_windows)), (q_a2_lawParts, .inl (cI, 18, .inl v_a2_lawParts))] H := hP
      have hD : va_D A [(q_t, .inr (5, [.ref q_t_text, .int v_t_sort, .int v_t_start, .int v_t_end, .ref q_t_parts, .int v_t_lines])), (q_t_text, .inr (7, [.ref q_t_text_bytes, .int v_t_text_length])), (q_t_text_bytes, .inl (cI, 200, .inl v_t_text_bytes)), (q_t_parts, .inl (cI, 3, .inl v_t_parts)), (q_a2, .inr (2, [.int v_a2_columns, .int v_a2_rows, .int v_a2_fade, .int v_a2_laws, .int v_a2_nightHours, .int v_a2_nightTimes, .ref q_a2_ground, .ref q_a2_windows, .ref q_a2_lawParts])), (q_a2_ground, .inl (cI, 36, .inl v_a2_ground)), (q_a2_windows, .inl (cI, 6, .inl v_a2_windows)), (q_a2_lawParts, .inl (cI, 18, .inl v_a2_lawParts))] := hD
      refine lv_iload hx hb dX5_carryOut_94 (lv_at hl 0 rfl) ?_
      obtain ⟨z96_5, hz96_5, hf⟩ := bd_some hf
      refine cVv (rest := []) ⟨hx, hb, hml, hown, hts⟩ hE hK hP hD hS hA (c_X2_putRock l D cI cJ cZ en q_a2 q_a2_ground q_a2_windows q_a2_lawParts H.size v_a2_columns v_a2_rows v_a2_fade v_a2_laws v_a2_nightHours v_a2_nightTimes v_a2_ground v_a2_windows v_a2_lawParts z91_4 (v_t_parts (Int32.toNatClampNeg 2)) hz96_5) (gv_X2_putRock w_476) hd_X2_putRock ⟨rfl, rfl⟩ ⟨by decide, by decide⟩ [4, 5, 6, 7] (And.intro rfl (And.intro rfl (And.intro rfl (And.intro rfl trivial)))) rfl (And.intro rfl (And.intro rfl (And.intro rfl (And.intro rfl trivial)))) 2 rfl rfl 4 rfl  hl rfl (Nat.le_of_ble_eq_true rfl) ⟨Nat.zero_le _, Nat.zero_le _⟩ dX5_carryOut_96 (fun H locs hP hD hS => ?_)
      have hP : va_P D vwCl [(q_t, .inr (5, [.ref q_t_text, .int v_t_sort, .int v_t_start, .int v_t_end, .ref q_t_parts, .int v_t_lines])), (q_t_text, .inr (7, [.ref q_t_text_bytes, .int v_t_text_length])), (q_t_text_bytes, .inl (cI, 200, .inl v_t_text_bytes)), (q_t_parts, .inl (cI, 3, .inl v_t_parts)), (q_a2, .inr (2, [.int v_a2_columns, .int v_a2_rows, .int v_a2_fade, .int v_a2_laws, .int v_a2_nightHours, .int v_a2_nightTimes, .ref q_a2_ground, .ref q_a2_windows, .ref q_a2_lawParts])), (q_a2_ground, .inl (cI, 36, .inl z96_5.1)), (q_a2_windows, .inl (cI, 6, .inl z96_5.2)), (q_a2_lawParts, .inl (cI, 18, .inl v_a2_lawParts))] H := hP
      have hD : va_D A [(q_t, .inr (5, [.ref q_t_text, .int v_t_sort, .int v_t_start, .int v_t_end, .ref q_t_parts, .int v_t_lines])), (q_t_text, .inr (7, [.ref q_t_text_bytes, .int v_t_text_length])), (q_t_text_bytes, .inl (cI, 200, .inl v_t_text_bytes)), (q_t_parts, .inl (cI, 3, .inl v_t_parts)), (q_a2, .inr (2, [.int v_a2_columns, .int v_a2_rows, .int v_a2_fade, .int v_a2_laws, .int v_a2_nightHours, .int v_a2_nightTimes, .ref q_a2_ground, .ref q_a2_windows, .ref q_a2_lawParts])), (q_a2_ground, .inl (cI, 36, .inl z96_5.1)), (q_a2_windows, .inl (cI, 6, .inl z96_5.2)), (q_a2_lawParts, .inl (cI, 18, .inl v_a2_lawParts))] := hD
      refine lv_goto (tgt := 181) hx hb dX5_carryOut_99 (by decide) ?_
      have hf := Option.some.inj hf
      subst hf
      exact rt_v hx hb hr hlocks hK hP hS dX5_carryOut_181
    · have hf := (if_neg h_3).symm.trans hf
      by_cases h_6 : x1 = 3
      · have hf := (if_pos h_6).symm.trans hf
        refine lv_tableIn (off := 78) (tgt := 102) hx hb dX5_carryOut_24 (by rw [h_6]; decide) (by rw [h_6]; decide) (by rw [h_6]; rfl) (by decide) ?_
        refine lv_aload_n hx hb dX5_carryOut_102 rfl (lv_at hl 5 rfl) ?_
        refine lv_aload_n hx hb dX5_carryOut_103 rfl (lv_at hl 5 rfl) ?_
        refine lv_iload_n hx hb dX5_carryOut_104 rfl (lv_at hl 2 rfl) ?_
        refine lv_iload hx hb dX5_carryOut_105 (lv_at hl 1 rfl) ?_
        obtain ⟨z107_7, hz107_7, hf⟩ := bd_some hf
        refine cVi (rest := [.ref q_a2]) ⟨hx, hb, hml, hown, hts⟩ hE hK hP hD hS hA (c_X2_cellAt l D cI cJ cZ en q_a2 q_a2_ground q_a2_windows q_a2_lawParts H.size v_a2_columns v_a2_rows v_a2_fade v_a2_laws v_a2_nightHours v_a2_nightTimes v_a2_ground v_a2_windows v_a2_lawParts (v_t_parts (Int32.toNatClampNeg 0)) (v_t_parts (Int32.toNatClampNeg 1)) hz107_7) (gv_X2_cellAt w_456) hd_X2_cellAt ⟨rfl, rfl⟩ ⟨by decide, by decide⟩ [4, 5, 6, 7] (And.intro rfl (And.intro rfl (And.intro rfl (And.intro rfl trivial)))) rfl (And.intro rfl (And.intro rfl (And.intro rfl (And.intro rfl trivial)))) 2 rfl rfl 4 rfl  hl rfl (Nat.le_of_ble_eq_true rfl) ⟨Nat.zero_le _, Nat.zero_le _⟩ dX5_carryOut_107 (fun H locs hP hD hS => ?_)
        have hP : va_P D vwCl [(q_t, .inr (5, [.ref q_t_text, .int v_t_sort, .int v_t_start, .int v_t_end, .ref q_t_parts, .int v_t_lines])), (q_t_text, .inr (7, [.ref q_t_text_bytes, .int v_t_text_length])), (q_t_text_bytes, .inl (cI, 200, .inl v_t_text_bytes)), (q_t_parts, .inl (cI, 3, .inl v_t_parts)), (q_a2, .inr (2, [.int v_a2_columns, .int v_a2_rows, .int v_a2_fade, .int v_a2_laws, .int v_a2_nightHours, .int v_a2_nightTimes, .ref q_a2_ground, .ref q_a2_windows, .ref q_a2_lawParts])), (q_a2_ground, .inl (cI, 36, .inl v_a2_ground)), (q_a2_windows, .inl (cI, 6, .inl v_a2_windows)), (q_a2_lawParts, .inl (cI, 18, .inl v_a2_lawParts))] H := hP
        have hD : va_D A [(q_t, .inr (5, [.ref q_t_text, .int v_t_sort, .int v_t_start, .int v_t_end, .ref q_t_parts, .int v_t_lines])), (q_t_text, .inr (7, [.ref q_t_text_bytes, .int v_t_text_length])), (q_t_text_bytes, .inl (cI, 200, .inl v_t_text_bytes)), (q_t_parts, .inl (cI, 3, .inl v_t_parts)), (q_a2, .inr (2, [.int v_a2_columns, .int v_a2_rows, .int v_a2_fade, .int v_a2_laws, .int v_a2_nightHours, .int v_a2_nightTimes, .ref q_a2_ground, .ref q_a2_windows, .ref q_a2_lawParts])), (q_a2_ground, .inl (cI, 36, .inl v_a2_ground)), (q_a2_windows, .inl (cI, 6, .inl v_a2_windows)), (q_a2_lawParts, .inl (cI, 18, .inl v_a2_lawParts))] := hD
        obtain ⟨z110_8, hz110_8, hf⟩ := bd_some hf
        refine cVv (rest := []) ⟨hx, hb, hml, hown, hts⟩ hE hK hP hD hS hA (c_X2_putFloor l D cI cJ cZ en q_a2 q_a2_ground q_a2_windows q_a2_lawParts H.size v_a2_columns v_a2_rows v_a2_fade v_a2_laws v_a2_nightHours v_a2_nightTimes v_a2_ground v_a2_windows v_a2_lawParts z107_7 hz110_8) (gv_X2_putFloor w_480) hd_X2_putFloor ⟨rfl, rfl⟩ ⟨by decide, by decide⟩ [4, 5, 6, 7] (And.intro rfl (And.intro rfl (And.intro rfl (And.intro rfl trivial)))) rfl (And.intro rfl (And.intro rfl (And.intro rfl (And.intro rfl trivial)))) 2 rfl rfl 4 rfl  hl rfl (Nat.le_of_ble_eq_true rfl) ⟨Nat.zero_le _, Nat.zero_le _⟩ dX5_carryOut_110 (fun H locs hP hD hS => ?_)
        have hP : va_P D vwCl [(q_t, .inr (5, [.ref q_t_text, .int v_t_sort, .int v_t_start, .int v_t_end, .ref q_t_parts, .int v_t_lines])), (q_t_text, .inr (7, [.ref q_t_text_bytes, .int v_t_text_length])), (q_t_text_bytes, .inl (cI, 200, .inl v_t_text_bytes)), (q_t_parts, .inl (cI, 3, .inl v_t_parts)), (q_a2, .inr (2, [.int v_a2_columns, .int v_a2_rows, .int v_a2_fade, .int v_a2_laws, .int v_a2_nightHours, .int v_a2_nightTimes, .ref q_a2_ground, .ref q_a2_windows, .ref q_a2_lawParts])), (q_a2_ground, .inl (cI, 36, .inl z110_8)), (q_a2_windows, .inl (cI, 6, .inl v_a2_windows)), (q_a2_lawParts, .inl (cI, 18, .inl v_a2_lawParts))] H := hP
        have hD : va_D A [(q_t, .inr (5, [.ref q_t_text, .int v_t_sort, .int v_t_start, .int v_t_end, .ref q_t_parts, .int v_t_lines])), (q_t_text, .inr (7, [.ref q_t_text_bytes, .int v_t_text_length])), (q_t_text_bytes, .inl (cI, 200, .inl v_t_text_bytes)), (q_t_parts, .inl (cI, 3, .inl v_t_parts)), (q_a2, .inr (2, [.int v_a2_columns, .int v_a2_rows, .int v_a2_fade, .int v_a2_laws, .int v_a2_nightHours, .int v_a2_nightTimes, .ref q_a2_ground, .ref q_a2_windows, .ref q_a2_lawParts])), (q_a2_ground, .inl (cI, 36, .inl z110_8)), (q_a2_windows, .inl (cI, 6, .inl v_a2_windows)), (q_a2_lawParts, .inl (cI, 18, .inl v_a2_lawParts))] := hD
        refine lv_goto (tgt := 181) hx hb dX5_carryOut_113 (by decide) ?_
        have hf := Option.some.inj hf
        subst hf
        exact rt_v hx hb hr hlocks hK hP hS dX5_carryOut_181
      · have hf := (if_neg h_6).symm.trans hf
        by_cases h_9 : x1 = 4
        · have hf := (if_pos h_9).symm.trans hf
          refine lv_tableIn (off := 92) (tgt := 116) hx hb dX5_carryOut_24 (by rw [h_9]; decide) (by rw [h_9]; decide) (by rw [h_9]; rfl) (by decide) ?_
          refine lv_aload_n hx hb dX5_carryOut_116 rfl (lv_at hl 5 rfl) ?_
          refine lv_iload_n hx hb dX5_carryOut_117 rfl (lv_at hl 2 rfl) ?_
          refine lv_aload_n hx hb dX5_carryOut_118 rfl (lv_at hl 5 rfl) ?_
          refine lv_iload hx hb dX5_carryOut_119 (lv_at hl 1 rfl) ?_
          refine lv_iload hx hb dX5_carryOut_121 (lv_at hl 0 rfl) ?_
          obtain ⟨z123_10, hz123_10, hf⟩ := bd_some hf
          refine cVi (rest := [.int (v_t_parts (Int32.toNatClampNeg 0)), .ref q_a2]) ⟨hx, hb, hml, hown, hts⟩ hE hK hP hD hS hA (c_X2_cellAt l D cI cJ cZ en q_a2 q_a2_ground q_a2_windows q_a2_lawParts H.size v_a2_columns v_a2_rows v_a2_fade v_a2_laws v_a2_nightHours v_a2_nightTimes v_a2_ground v_a2_windows v_a2_lawParts (v_t_parts (Int32.toNatClampNeg 1)) (v_t_parts (Int32.toNatClampNeg 2)) hz123_10) (gv_X2_cellAt w_456) hd_X2_cellAt ⟨rfl, rfl⟩ ⟨by decide, by decide⟩ [4, 5, 6, 7] (And.intro rfl (And.intro rfl (And.intro rfl (And.intro rfl trivial)))) rfl (And.intro rfl (And.intro rfl (And.intro rfl (And.intro rfl trivial)))) 2 rfl rfl 4 rfl  hl rfl (Nat.le_of_ble_eq_true rfl) ⟨Nat.zero_le _, Nat.zero_le _⟩ dX5_carryOut_123 (fun H locs hP hD hS => ?_)
          have hP : va_P D vwCl [(q_t, .inr (5, [.ref q_t_text, .int v_t_sort, .int v_t_start, .int v_t_end, .ref q_t_parts, .int v_t_lines])), (q_t_text, .inr (7, [.ref q_t_text_bytes, .int v_t_text_length])), (q_t_text_bytes, .inl (cI, 200, .inl v_t_text_bytes)), (q_t_parts, .inl (cI, 3, .inl v_t_parts)), (q_a2, .inr (2, [.int v_a2_columns, .int v_a2_rows, .int v_a2_fade, .int v_a2_laws, .int v_a2_nightHours, .int v_a2_nightTimes, .ref q_a2_ground, .ref q_a2_windows, .ref q_a2_lawParts])), (q_a2_ground, .inl (cI, 36, .inl v_a2_ground)), (q_a2_windows, .inl (cI, 6, .inl v_a2_windows)), (q_a2_lawParts, .inl (cI, 18, .inl v_a2_lawParts))] H := hP
          have hD : va_D A [(q_t, .inr (5, [.ref q_t_text, .int v_t_sort, .int v_t_start, .int v_t_end, .ref q_t_parts, .int v_t_lines])), (q_t_text, .inr (7, [.ref q_t_text_bytes, .int v_t_text_length])), (q_t_text_bytes, .inl (cI, 200, .inl v_t_text_bytes)), (q_t_parts, .inl (cI, 3, .inl v_t_parts)), (q_a2, .inr (2, [.int v_a2_columns, .int v_a2_rows, .int v_a2_fade, .int v_a2_laws, .int v_a2_nightHours, .int v_a2_nightTimes, .ref q_a2_ground, .ref q_a2_windows, .ref q_a2_lawParts])), (q_a2_ground, .inl (cI, 36, .inl v_a2_ground)), (q_a2_windows, .inl (cI, 6, .inl v_a2_windows)), (q_a2_lawParts, .inl (cI, 18, .inl v_a2_lawParts))] := hD
          obtain ⟨z126_11, hz126_11, hf⟩ := bd_some hf
          refine cVv (rest := []) ⟨hx, hb, hml, hown, hts⟩ hE hK hP hD hS hA (c_X2_place l D cI cJ cZ en q_a2 q_a2_ground q_a2_windows q_a2_lawParts H.size v_a2_columns v_a2_rows v_a2_fade v_a2_laws v_a2_nightHours v_a2_nightTimes v_a2_ground v_a2_windows v_a2_lawParts (v_t_parts (Int32.toNatClampNeg 0)) z123_10 hz126_11) (gv_X2_place w_484) hd_X2_place ⟨rfl, rfl⟩ ⟨by decide, by decide⟩ [4, 5, 6, 7] (And.intro rfl (And.intro rfl (And.intro rfl (And.intro rfl trivial)))) rfl (And.intro rfl (And.intro rfl (And.intro rfl (And.intro rfl trivial)))) 2 rfl rfl 4 rfl  hl rfl (Nat.le_of_ble_eq_true rfl) ⟨Nat.zero_le _, Nat.zero_le _⟩ dX5_carryOut_126 (fun H locs hP hD hS => ?_)
          have hP : va_P D vwCl [(q_t, .inr (5, [.ref q_t_text, .int v_t_sort, .int v_t_start, .int v_t_end, .ref q_t_parts, .int v_t_lines])), (q_t_text, .inr (7, [.ref q_t_text_bytes, .int v_t_text_length])), (q_t_text_bytes, .inl (cI, 200, .inl v_t_text_bytes)), (q_t_parts, .inl (cI, 3, .inl v_t_parts)), (q_a2, .inr (2, [.int v_a2_columns, .int v_a2_rows, .int v_a2_fade, .int v_a2_laws, .int v_a2_nightHours, .int v_a2_nightTimes, .ref q_a2_ground, .ref q_a2_windows, .ref q_a2_lawParts])), (q_a2_ground, .inl (cI, 36, .inl v_a2_ground)), (q_a2_windows, .inl (cI, 6, .inl z126_11)), (q_a2_lawParts, .inl (cI, 18, .inl v_a2_lawParts))] H := hP
          have hD : va_D A [(q_t, .inr (5, [.ref q_t_text, .int v_t_sort, .int v_t_start, .int v_t_end, .ref q_t_parts, .int v_t_lines])), (q_t_text, .inr (7, [.ref q_t_text_bytes, .int v_t_text_length])), (q_t_text_bytes, .inl (cI, 200, .inl v_t_text_bytes)), (q_t_parts, .inl (cI, 3, .inl v_t_parts)), (q_a2, .inr (2, [.int v_a2_columns, .int v_a2_rows, .int v_a2_fade, .int v_a2_laws, .int v_a2_nightHours, .int v_a2_nightTimes, .ref q_a2_ground, .ref q_a2_windows, .ref q_a2_lawParts])), (q_a2_ground, .inl (cI, 36, .inl v_a2_ground)), (q_a2_windows, .inl (cI, 6, .inl z126_11)), (q_a2_lawParts, .inl (cI, 18, .inl v_a2_lawParts))] := hD
          refine lv_goto (tgt := 181) hx hb dX5_carryOut_129 (by decide) ?_
          have hf := Option.some.inj hf
          subst hf
          exact rt_v hx hb hr hlocks hK hP hS dX5_carryOut_181
        · have hf := (if_neg h_9).symm.trans hf
          by_cases h_12 : x1 = 5
          · have hf := (if_pos h_12).symm.trans hf
            refine lv_tableIn (off := 108) (tgt := 132) hx hb dX5_carryOut_24 (by rw [h_12]; decide) (by rw [h_12]; decide) (by rw [h_12]; rfl) (by decide) ?_
            refine lv_aload_n hx hb dX5_carryOut_132 rfl (lv_at hl 5 rfl) ?_
            refine lv_iload_n hx hb dX5_carryOut_133 rfl (lv_at hl 2 rfl) ?_
            refine lv_iconst (v := (-1)) hx hb dX5_carryOut_134 (by decide) ?_
            obtain ⟨z135_13, hz135_13, hf⟩ := bd_some hf
            refine cVv (rest := []) ⟨hx, hb, hml, hown, hts⟩ hE hK hP hD hS hA (c_X2_place l D cI cJ cZ en q_a2 q_a2_ground q_a2_windows q_a2_lawParts H.size v_a2_columns v_a2_rows v_a2_fade v_a2_laws v_a2_nightHours v_a2_nightTimes v_a2_ground v_a2_windows v_a2_lawParts (v_t_parts (Int32.toNatClampNeg 0)) (-1) hz135_13) (gv_X2_place w_484) hd_X2_place ⟨rfl, rfl⟩ ⟨by decide, by decide⟩ [4, 5, 6, 7] (And.intro rfl (And.intro rfl (And.intro rfl (And.intro rfl trivial)))) rfl (And.intro rfl (And.intro rfl (And.intro rfl (And.intro rfl trivial)))) 2 rfl rfl 4 rfl  hl rfl (Nat.le_of_ble_eq_true rfl) ⟨Nat.zero_le _, Nat.zero_le _⟩ dX5_carryOut_135 (fun H locs hP hD hS => ?_)
            have hP : va_P D vwCl [(q_t, .inr (5, [.ref q_t_text, .int v_t_sort, .int v_t_start, .int v_t_end, .ref q_t_parts, .int v_t_lines])), (q_t_text, .inr (7, [.ref q_t_text_bytes, .int v_t_text_length])), (q_t_text_bytes, .inl (cI, 200, .inl v_t_text_bytes)), (q_t_parts, .inl (cI, 3, .inl v_t_parts)), (q_a2, .inr (2, [.int v_a2_columns, .int v_a2_rows, .int v_a2_fade, .int v_a2_laws, .int v_a2_nightHours, .int v_a2_nightTimes, .ref q_a2_ground, .ref q_a2_windows, .ref q_a2_lawParts])), (q_a2_ground, .inl (cI, 36, .inl v_a2_ground)), (q_a2_windows, .inl (cI, 6, .inl z135_13)), (q_a2_lawParts, .inl (cI, 18, .inl v_a2_lawParts))] H := hP
            have hD : va_D A [(q_t, .inr (5, [.ref q_t_text, .int v_t_sort, .int v_t_start, .int v_t_end, .ref q_t_parts, .int v_t_lines])), (q_t_text, .inr (7, [.ref q_t_text_bytes, .int v_t_text_length])), (q_t_text_bytes, .inl (cI, 200, .inl v_t_text_bytes)), (q_t_parts, .inl (cI, 3, .inl v_t_parts)), (q_a2, .inr (2, [.int v_a2_columns, .int v_a2_rows, .int v_a2_fade, .int v_a2_laws, .int v_a2_nightHours, .int v_a2_nightTimes, .ref q_a2_ground, .ref q_a2_windows, .ref q_a2_lawParts])), (q_a2_ground, .inl (cI, 36, .inl v_a2_ground)), (q_a2_windows, .inl (cI, 6, .inl z135_13)), (q_a2_lawParts, .inl (cI, 18, .inl v_a2_lawParts))] := hD
            refine lv_goto (tgt := 181) hx hb dX5_carryOut_138 (by decide) ?_
            have hf := Option.some.inj hf
            subst hf
            exact rt_v hx hb hr hlocks hK hP hS dX5_carryOut_181
          · have hf := (if_neg h_12).symm.trans hf
            by_cases h_14 : x1 = 6
            · have hf := (if_pos h_14).symm.trans hf
              refine lv_tableIn (off := 117) (tgt := 141) hx hb dX5_carryOut_24 (by rw [h_14]; decide) (by rw [h_14]; decide) (by rw [h_14]; rfl) (by decide) ?_
              refine lv_aload_n hx hb dX5_carryOut_141 rfl (lv_at hl 5 rfl) ?_
              refine lv_iload_n hx hb dX5_carryOut_142 rfl (lv_at hl 2 rfl) ?_
              refine lv_iload hx hb dX5_carryOut_143 (lv_at hl 1 rfl) ?_
              refine lv_iload hx hb dX5_carryOut_145 (lv_at hl 0 rfl) ?_
              obtain ⟨z147_15, hz147_15, hf⟩ := bd_some hf
              refine cVv (rest := []) ⟨hx, hb, hml, hown, hts⟩ hE hK hP hD hS hA (c_X2_addLaw l D cI cJ cZ en q_a2 q_a2_ground q_a2_windows q_a2_lawParts H.size v_a2_columns v_a2_rows v_a2_fade v_a2_laws v_a2_nightHours v_a2_nightTimes v_a2_ground v_a2_windows v_a2_lawParts (v_t_parts (Int32.toNatClampNeg 0)) (v_t_parts (Int32.toNatClampNeg 1)) (v_t_parts (Int32.toNatClampNeg 2)) hz147_15) (gv_X2_addLaw w_491) hd_X2_addLaw ⟨rfl, rfl⟩ ⟨by decide, by decide⟩ [4, 5, 6, 7] (And.intro rfl (And.intro rfl (And.intro rfl (And.intro rfl trivial)))) rfl (And.intro rfl (And.intro rfl (And.intro rfl (And.intro rfl trivial)))) 2 rfl rfl 4 rfl  hl rfl (Nat.le_of_ble_eq_true rfl) ⟨Nat.zero_le _, Nat.zero_le _⟩ dX5_carryOut_147 (fun H locs hP hD hS => ?_)
              have hP : va_P D vwCl [(q_t, .inr (5, [.ref q_t_text, .int v_t_sort, .int v_t_start, .int v_t_end, .ref q_t_parts, .int v_t_lines])), (q_t_text, .inr (7, [.ref q_t_text_bytes, .int v_t_text_length])), (q_t_text_bytes, .inl (cI, 200, .inl v_t_text_bytes)), (q_t_parts, .inl (cI, 3, .inl v_t_parts)), (q_a2, .inr (2, [.int v_a2_columns, .int v_a2_rows, .int v_a2_fade, .int z147_15.1, .int v_a2_nightHours, .int v_a2_nightTimes, .ref q_a2_ground, .ref q_a2_windows, .ref q_a2_lawParts])), (q_a2_ground, .inl (cI, 36, .inl v_a2_ground)), (q_a2_windows, .inl (cI, 6, .inl v_a2_windows)), (q_a2_lawParts, .inl (cI, 18, .inl z147_15.2))] H := hP
              have hD : va_D A [(q_t, .inr (5, [.ref q_t_text, .int v_t_sort, .int v_t_start, .int v_t_end, .ref q_t_parts, .int v_t_lines])), (q_t_text, .inr (7, [.ref q_t_text_bytes, .int v_t_text_length])), (q_t_text_bytes, .inl (cI, 200, .inl v_t_text_bytes)), (q_t_parts, .inl (cI, 3, .inl v_t_parts)), (q_a2, .inr (2, [.int v_a2_columns, .int v_a2_rows, .int v_a2_fade, .int z147_15.1, .int v_a2_nightHours, .int v_a2_nightTimes, .ref q_a2_ground, .ref q_a2_windows, .ref q_a2_lawParts])), (q_a2_ground, .inl (cI, 36, .inl v_a2_ground)), (q_a2_windows, .inl (cI, 6, .inl v_a2_windows)), (q_a2_lawParts, .inl (cI, 18, .inl z147_15.2))] := hD
              refine lv_goto (tgt := 181) hx hb dX5_carryOut_150 (by decide) ?_
              have hf := Option.some.inj hf
              subst hf
              exact rt_v hx hb hr hlocks hK hP hS dX5_carryOut_181
            · have hf := (if_neg h_14).symm.trans hf
              by_cases h_16 : x1 = 7
              · have hf := (if_pos h_16).symm.trans hf
                refine lv_tableIn (off := 129) (tgt := 153) hx hb dX5_carryOut_24 (by rw [h_16]; decide) (by rw [h_16]; decide) (by rw [h_16]; rfl) (by decide) ?_
                refine lv_aload_n hx hb dX5_carryOut_153 rfl (lv_at hl 5 rfl) ?_
                refine lv_iconst (v := 0) hx hb dX5_carryOut_154 (by decide) ?_
                refine va_put (D := D) (ci := 2) (v := .int 0) (ty := .int) (C := RX2) (T := TX2) (N := 9) hx hb hts inX2 tyX2 tyX2_ok nmX2 hown hK hP hD hS 4 rfl rfl 3 (by decide) (hts _ w_144) (fun _ h9 => h9) rfl (by decide +kernel) rfl rfl (Nat.le_of_ble_eq_true rfl) dX5_carryOut_155 (fun H locs hP hD hS => ?_)
                have hP : va_P D vwCl [(q_t, .inr (5, [.ref q_t_text, .int v_t_sort, .int v_t_start, .int v_t_end, .ref q_t_parts, .int v_t_lines])), (q_t_text, .inr (7, [.ref q_t_text_bytes, .int v_t_text_length])), (q_t_text_bytes, .inl (cI, 200, .inl v_t_text_bytes)), (q_t_parts, .inl (cI, 3, .inl v_t_parts)), (q_a2, .inr (2, [.int v_a2_columns, .int v_a2_rows, .int v_a2_fade, .int 0, .int v_a2_nightHours, .int v_a2_nightTimes, .ref q_a2_ground, .ref q_a2_windows, .ref q_a2_lawParts])), (q_a2_ground, .inl (cI, 36, .inl v_a2_ground)), (q_a2_windows, .inl (cI, 6, .inl v_a2_windows)), (q_a2_lawParts, .inl (cI, 18, .inl v_a2_lawParts))] H := hP
                have hD : va_D A [(q_t, .inr (5, [.ref q_t_text, .int v_t_sort, .int v_t_start, .int v_t_end, .ref q_t_parts, .int v_t_lines])), (q_t_text, .inr (7, [.ref q_t_text_bytes, .int v_t_text_length])), (q_t_text_bytes, .inl (cI, 200, .inl v_t_text_bytes)), (q_t_parts, .inl (cI, 3, .inl v_t_parts)), (q_a2, .inr (2, [.int v_a2_columns, .int v_a2_rows, .int v_a2_fade, .int 0, .int v_a2_nightHours, .int v_a2_nightTimes, .ref q_a2_ground, .ref q_a2_windows, .ref q_a2_lawParts])), (q_a2_ground, .inl (cI, 36, .inl v_a2_ground)), (q_a2_windows, .inl (cI, 6, .inl v_a2_windows)), (q_a2_lawParts, .inl (cI, 18, .inl v_a2_lawParts))] := hD
                refine lv_goto (tgt := 181) hx hb dX5_carryOut_158 (by decide) ?_
                have hf := Option.some.inj hf
                subst hf
                exact rt_v hx hb hr hlocks hK hP hS dX5_carryOut_181
              · have hf := (if_neg h_16).symm.trans hf
                by_cases h_17 : x1 = 8
                · have hf := (if_pos h_17).symm.trans hf
                  refine lv_tableIn (off := 137) (tgt := 161) hx hb dX5_carryOut_24 (by rw [h_17]; decide) (by rw [h_17]; decide) (by rw [h_17]; rfl) (by decide) ?_
                  refine lv_aload_n hx hb dX5_carryOut_161 rfl (lv_at hl 5 rfl) ?_
                  refine lv_iload_n hx hb dX5_carryOut_162 rfl (lv_at hl 2 rfl) ?_
                  refine lv_iload hx hb dX5_carryOut_163 (lv_at hl 1 rfl) ?_
                  refine lv_iload hx hb dX5_carryOut_165 (lv_at hl 0 rfl) ?_
                  obtain ⟨z167_18, hz167_18, hf⟩ := bd_some hf
                  refine cVv (rest := []) ⟨hx, hb, hml, hown, hts⟩ hE hK hP hD hS hA (c_X2_setNight l D cI cJ cZ en q_a2 q_a2_ground q_a2_windows q_a2_lawParts H.size v_a2_columns v_a2_rows v_a2_fade v_a2_laws v_a2_nightHours v_a2_nightTimes v_a2_ground v_a2_windows v_a2_lawParts (v_t_parts (Int32.toNatClampNeg 0)) (v_t_parts (Int32.toNatClampNeg 1)) (v_t_parts (Int32.toNatClampNeg 2)) hz167_18) (gv_X2_setNight w_495) hd_X2_setNight ⟨rfl, rfl⟩ ⟨by decide, by decide⟩ [4, 5, 6, 7] (And.intro rfl (And.intro rfl (And.intro rfl (And.intro rfl trivial)))) rfl (And.intro rfl (And.intro rfl (And.intro rfl (And.intro rfl trivial)))) 2 rfl rfl 4 rfl  hl rfl (Nat.le_of_ble_eq_true rfl) ⟨Nat.zero_le _, Nat.zero_le _⟩ dX5_carryOut_167 (fun H locs hP hD hS => ?_)
                  have hP : va_P D vwCl [(q_t, .inr (5, [.ref q_t_text, .int v_t_sort, .int v_t_start, .int v_t_end, .ref q_t_parts, .int v_t_lines])), (q_t_text, .inr (7, [.ref q_t_text_bytes, .int v_t_text_length])), (q_t_text_bytes, .inl (cI, 200, .inl v_t_text_bytes)), (q_t_parts, .inl (cI, 3, .inl v_t_parts)), (q_a2, .inr (2, [.int v_a2_columns, .int v_a2_rows, .int v_a2_fade, .int v_a2_laws, .int z167_18.1, .int z167_18.2, .ref q_a2_ground, .ref q_a2_windows, .ref q_a2_lawParts])), (q_a2_ground, .inl (cI, 36, .inl v_a2_ground)), (q_a2_windows, .inl (cI, 6, .inl v_a2_windows)), (q_a2_lawParts, .inl (cI, 18, .inl v_a2_lawParts))] H := hP
                  have hD : va_D A [(q_t, .inr (5, [.ref q_t_text, .int v_t_sort, .int v_t_start, .int v_t_end, .ref q_t_parts, .int v_t_lines])), (q_t_text, .inr (7, [.ref q_t_text_bytes, .int v_t_text_length])), (q_t_text_bytes, .inl (cI, 200, .inl v_t_text_bytes)), (q_t_parts, .inl (cI, 3, .inl v_t_parts)), (q_a2, .inr (2, [.int v_a2_columns, .int v_a2_rows, .int v_a2_fade, .int v_a2_laws, .int z167_18.1, .int z167_18.2, .ref q_a2_ground, .ref q_a2_windows, .ref q_a2_lawParts])), (q_a2_ground, .inl (cI, 36, .inl v_a2_ground)), (q_a2_windows, .inl (cI, 6, .inl v_a2_windows)), (q_a2_lawParts, .inl (cI, 18, .inl v_a2_lawParts))] := hD
                  refine lv_goto (tgt := 181) hx hb dX5_carryOut_170 (by decide) ?_
                  have hf := Option.some.inj hf
                  subst hf
                  exact rt_v hx hb hr hlocks hK hP hS dX5_carryOut_181
                · have hf := (if_neg h_17).symm.trans hf
                  by_cases h_19 : x1 = 9
                  · have hf := (if_pos h_19).symm.trans hf
                    refine lv_tableIn (off := 149) (tgt := 173) hx hb dX5_carryOut_24 (by rw [h_19]; decide) (by rw [h_19]; decide) (by rw [h_19]; rfl) (by decide) ?_
                    refine lv_aload_n hx hb dX5_carryOut_173 rfl (lv_at hl 5 rfl) ?_
                    refine lv_iload_n hx hb dX5_carryOut_174 rfl (lv_at hl 2 rfl) ?_
                    refine va_put (D := D) (ci := 2) (v := .int (v_t_parts (Int32.toNatClampNeg 0))) (ty := .int) (C := RX2) (T := TX2) (N := 9) hx hb hts inX2 tyX2 tyX2_ok nmX2 hown hK hP hD hS 4 rfl rfl 2 (by decide) (hts _ w_141) (fun _ h9 => h9) rfl (by decide +kernel) rfl rfl (Nat.le_of_ble_eq_true rfl) dX5_carryOut_175 (fun H locs hP hD hS => ?_)
                    have hP : va_P D vwCl [(q_t, .inr (5, [.ref q_t_text, .int v_t_sort, .int v_t_start, .int v_t_end, .ref q_t_parts, .int v_t_lines])), (q_t_text, .inr (7, [.ref q_t_text_bytes, .int v_t_text_length])), (q_t_text_bytes, .inl (cI, 200, .inl v_t_text_bytes)), (q_t_parts, .inl (cI, 3, .inl v_t_parts)), (q_a2, .inr (2, [.int v_a2_columns, .int v_a2_rows, .int (v_t_parts (Int32.toNatClampNeg 0)), .int v_a2_laws, .int v_a2_nightHours, .int v_a2_nightTimes, .ref q_a2_ground, .ref q_a2_windows, .ref q_a2_lawParts])), (q_a2_ground, .inl (cI, 36, .inl v_a2_ground)), (q_a2_windows, .inl (cI, 6, .inl v_a2_windows)), (q_a2_lawParts, .inl (cI, 18, .inl v_a2_lawParts))] H := hP
                    have hD : va_D A [(q_t, .inr (5, [.ref q_t_text, .int v_t_sort, .int v_t_start, .int v_t_end, .ref q_t_parts, .int v_t_lines])), (q_t_text, .inr (7, [.ref q_t_text_bytes, .int v_t_text_length])), (q_t_text_bytes, .inl (cI, 200, .inl v_t_text_bytes)), (q_t_parts, .inl (cI, 3, .inl v_t_parts)), (q_a2, .inr (2, [.int v_a2_columns, .int v_a2_rows, .int (v_t_parts (Int32.toNatClampNeg 0)), .int v_a2_laws, .int v_a2_nightHours, .int v_a2_nightTimes, .ref q_a2_ground, .ref q_a2_windows, .ref q_a2_lawParts])), (q_a2_ground, .inl (cI, 36, .inl v_a2_ground)), (q_a2_windows, .inl (cI, 6, .inl v_a2_windows)), (q_a2_lawParts, .inl (cI, 18, .inl v_a2_lawParts))] := hD
                    refine lv_goto (tgt := 181) hx hb dX5_carryOut_178 (by decide) ?_
                    have hf := Option.some.inj hf
                    subst hf
                    exact rt_v hx hb hr hlocks hK hP hS dX5_carryOut_181
                  · have hf := (if_neg h_19).symm.trans hf
                    refine tb_out2 (tgt := 181) hx hb dX5_carryOut_24 rfl [1, 2, 3, 4, 5, 6, 7, 8, 9] (List.forall_mem_cons.mpr ⟨h_1, List.forall_mem_cons.mpr ⟨h_3, List.forall_mem_cons.mpr ⟨h_6, List.forall_mem_cons.mpr ⟨h_9, List.forall_mem_cons.mpr ⟨h_12, List.forall_mem_cons.mpr ⟨h_14, List.forall_mem_cons.mpr ⟨h_16, List.forall_mem_cons.mpr ⟨h_17, List.forall_mem_cons.mpr ⟨h_19, fun _ h9 => absurd h9 List.not_mem_nil⟩⟩⟩⟩⟩⟩⟩⟩⟩) (by decide +kernel) (by decide) ?_
                    have hf := Option.some.inj hf
                    subst hf
                    exact rt_v hx hb hr hlocks hK hP hS dX5_carryOut_181

def f_X5_isWord_L20 (v_t_start : Int32) (v_t_text_length : Int32) (v_t_text_bytes : Nat → Int32) (x1 : Nat) : Nat → (Int32) → Option (Int32)
  | 0, _ => none
  | n + 1, x2 => gd (x1 < strN) ((f_J0_length_8abf5 x1).bind (fun z22 => (if z22 ≤ x2 then (some 1) else (f_X5_byteAt v_t_text_length v_t_text_bytes (v_t_start + x2)).bind (fun z35 => gd (x1 < strN) ((f_J0_charAt_5068e x1 x2).bind (fun z40 => (if z35 = z40 then (f_X5_isWord_L20 v_t_start v_t_text_length v_t_text_bytes x1 n (x2 + 1)) else (some 0))))))))
def f_X5_isWord (v_t_start : Int32) (v_t_end : Int32) (v_t_text_length : Int32) (v_t_text_bytes : Nat → Int32) (x1 : Nat) : Option (Int32) :=
  gd (x1 < strN) ((f_J0_length_8abf5 x1).bind (fun z10 => (if (v_t_end - v_t_start) = z10 then (f_X5_isWord_L20 v_t_start v_t_text_length v_t_text_bytes x1 FU 0) else (some 0))))
theorem gv_X5_isWord {own : String} {idx : Nat} (h : Cond.methodLink own idx yX5_isWord ∈ lw_g) : GoodIn lw_g (wsV own idx RX5 yX5_isWord (Cond.code yX5_isWord cX5_isWord 3 (some .boolean) :: lw_g)) := gV h w_374 w_4 w_59 w_375
theorem hd_X5_isWord : yX5_isWord.cls = RX5 ∧ yX5_isWord.cls ≠ "java/lang/invoke/MethodHandle" ∧ yX5_isWord.cls ≠ "java/lang/invoke/VarHandle" ∧ (parseMethodDescriptor yX5_isWord.desc).map (fun d => d.parameters.length) = some 1 := by decide +kernel
set_option maxHeartbeats 4000000 in
set_option maxRecDepth 100000 in
theorem c_X5_isWord (l : Launch) (D : va_G) (cI cJ cZ : ClassId) (en : EnT) (q_t q_t_text q_t_parts q_t_text_bytes : Nat) (sz : Nat) (v_t_sort : Int32) (v_t_start : Int32) (v_t_end : Int32) (v_t_lines : Int32) (v_t_text_length : Int32) (v_t_text_bytes : Nat → Int32) (v_t_parts : Nat → Int32) (x1 : Nat) {z : Int32} (hf : f_X5_isWord v_t_start v_t_end v_t_text_length v_t_text_bytes x1 = some z) : Met l yX5_isWord (Cond.code yX5_isWord cX5_isWord 3 (some .boolean) :: lw_g) ({ frames := 4, cells := 0, slots := 0, locals := 85 } : Room) (PC D cI cJ cZ en ([.ref q_t, .ref (en.1 x1)] : List Value) [(q_t, .inr (5, [.ref q_t_text, .int v_t_sort, .int v_t_start, .int v_t_end, .ref q_t_parts, .int v_t_lines])), (q_t_text, .inr (7, [.ref q_t_text_bytes, .int v_t_text_length])), (q_t_text_bytes, .inl (cI, 200, .inl v_t_text_bytes)), (q_t_parts, .inl (cI, 3, .inl v_t_parts))] sz) (QI D cI cJ cZ [(q_t, .inr (5, [.ref q_t_text, .int v_t_sort, .int v_t_start, .int v_t_end, .ref q_t_parts, .int v_t_lines])), (q_t_text, .inr (7, [.ref q_t_text_bytes, .int v_t_text_length])), (q_t_text_bytes, .inl (cI, 200, .inl v_t_text_bytes)), (q_t_parts, .inl (cI, 3, .inl v_t_parts))] z (va_A [(q_t, .inr (5, [.ref q_t_text, .int v_t_sort, .int v_t_start, .int v_t_end, .ref q_t_parts, .int v_t_lines])), (q_t_text, .inr (7, [.ref q_t_text_bytes, .int v_t_text_length])), (q_t_text_bytes, .inl (cI, 200, .inl v_t_text_bytes)), (q_t_parts, .inl (cI, 3, .inl v_t_parts))] sz)) 0 0 (va_A [(q_t, .inr (5, [.ref q_t_text, .int v_t_sort, .int v_t_start, .int v_t_end, .ref q_t_parts, .int v_t_lines])), (q_t_text, .inr (7, [.ref q_t_text_bytes, .int v_t_text_length])), (q_t_text_bytes, .inl (cI, 200, .inl v_t_text_bytes)), (q_t_parts, .inl (cI, 3, .inl v_t_parts))] sz) := by
  refine mk_met (Qc := fun A => (QI D cI cJ cZ [(q_t, .inr (5, [.ref q_t_text, .int v_t_sort, .int v_t_start, .int v_t_end, .ref q_t_parts, .int v_t_lines])), (q_t_text, .inr (7, [.ref q_t_text_bytes, .int v_t_text_length])), (q_t_text_bytes, .inl (cI, 200, .inl v_t_text_bytes)), (q_t_parts, .inl (cI, 3, .inl v_t_parts))] z A)) RX5 (by decide) rfl (Nat.le_of_ble_eq_true rfl) ?_
  intro p e s m below meth c ls A hx hb hr hml hown hts hlocks hA hK hE hl hD H locs hP hS
  have hl : lv_has ls 3 [(0, .ref q_t), (1, .ref (en.1 x1))] := hl
  unfold f_X5_isWord at hf
  refine lv_aload_n hx hb dX5_isWord_0 rfl (lv_at hl 0 rfl) ?_
  refine va_get (D := D) (ci := 5) (v := .int v_t_end) (C := RX5) (T := TX5) (N := 6) hx hb hts inX5 hown hK hP 0 rfl rfl 3 (by decide) (hts _ w_107) (fun _ h9 => h9) rfl dX5_isWord_1 ?_
  refine lv_aload_n hx hb dX5_isWord_4 rfl (lv_at hl 0 rfl) ?_
  refine va_get (D := D) (ci := 5) (v := .int v_t_start) (C := RX5) (T := TX5) (N := 6) hx hb hts inX5 hown hK hP 0 rfl rfl 2 (by decide) (hts _ w_106) (fun _ h9 => h9) rfl dX5_isWord_5 ?_
  refine lv_isub hx hb dX5_isWord_8 ?_
  refine lv_aload_n hx hb dX5_isWord_9 rfl (lv_at hl 1 rfl) ?_
  obtain ⟨hin, hf⟩ := gd_some hf
  obtain ⟨z10_1, hz10_1, hf⟩ := bd_some hf
  refine cRi (rest := [.int (v_t_end - v_t_start)]) ⟨hx, hb, hml, hown, hts⟩ hE hK hP hD hS hA (c_J0_length_8abf5 l D cI cJ cZ en  H.size x1 hz10_1) (gv_J0_length_8abf5 w_376) hd_J0_length_8abf5 ⟨rfl, rfl⟩ ⟨by decide, by decide⟩ [] trivial rfl trivial (vk_recv hE.1 hin hS)  hl rfl (Nat.le_of_ble_eq_true rfl) ⟨Nat.zero_le _, Nat.zero_le _⟩ dX5_isWord_10 (fun H locs hP hD hS => ?_)
  have hP : va_P D vwCl [(q_t, .inr (5, [.ref q_t_text, .int v_t_sort, .int v_t_start, .int v_t_end, .ref q_t_parts, .int v_t_lines])), (q_t_text, .inr (7, [.ref q_t_text_bytes, .int v_t_text_length])), (q_t_text_bytes, .inl (cI, 200, .inl v_t_text_bytes)), (q_t_parts, .inl (cI, 3, .inl v_t_parts))] H := hP
  have hD : va_D A [(q_t, .inr (5, [.ref q_t_text, .int v_t_sort, .int v_t_start, .int v_t_end, .ref q_t_parts, .int v_t_lines])), (q_t_text, .inr (7, [.ref q_t_text_bytes, .int v_t_text_length])), (q_t_text_bytes, .inl (cI, 200, .inl v_t_text_bytes)), (q_t_parts, .inl (cI, 3, .inl v_t_parts))] := hD
  refine lv_icmp_eq (tgt := 18) hx hb dX5_isWord_13 (by decide) (fun h_2 => ?_) (fun h_2 => ?_)
  · have hf := (if_pos h_2).symm.trans hf
    refine lv_iconst (v := 0) hx hb dX5_isWord_18 (by decide) ?_
    refine lv_istore_n (lv' := [(2, .int 0), (0, .ref q_t), (1, .ref (en.1 x1))]) hx hb dX5_isWord_19 rfl hl (by decide) rfl (fun ls hl => ?_)
    have L20_4 : ∀ (n_6 : Nat) (x2_3 : Int32), f_X5_isWord_L20 v_t_start v_t_text_length v_t_text_bytes x1 n_6 x2_3 = some z → ∀ (H : Heap) (locs : List Loc) (ls : Array Slot), va_P D vwCl [(q_t, .inr (5, [.ref q_t_text, .int v_t_sort, .int v_t_start, .int v_t_end, .ref q_t_parts, .int v_t_lines])), (q_t_text, .inr (7, [.ref q_t_text_bytes, .int v_t_text_length])), (q_t_text_bytes, .inl (cI, 200, .inl v_t_text_bytes)), (q_t_parts, .inl (cI, 3, .inl v_t_parts))] H → va_D A [(q_t, .inr (5, [.ref q_t_text, .int v_t_sort, .int v_t_start, .int v_t_end, .ref q_t_parts, .int v_t_lines])), (q_t_text, .inr (7, [.ref q_t_text_bytes, .int v_t_text_length])), (q_t_text_bytes, .inl (cI, 200, .inl v_t_text_bytes)), (q_t_parts, .inl (cI, 3, .inl v_t_parts))] → va_S A s.heap H locs → lv_has ls 3 [(0, .ref q_t), (1, .ref (en.1 x1)), (2, .int x2_3)] → W p l e ({ frames := 4, cells := 0, slots := 0, locals := 85 } : Room) s m ([.ref q_t, .ref (en.1 x1)] : List Value).toArray below meth c H locs 0 0 (MQ below (QI D cI cJ cZ [(q_t, .inr (5, [.ref q_t_text, .int v_t_sort, .int v_t_start, .int v_t_end, .ref q_t_parts, .int v_t_lines])), (q_t_text, .inr (7, [.ref q_t_text_bytes, .int v_t_text_length])), (q_t_text_bytes, .inl (cI, 200, .inl v_t_text_bytes)), (q_t_parts, .inl (cI, 3, .inl v_t_parts))] z A) ([.ref q_t, .ref (en.1 x1)] : List Value).toArray s 0 0 A) (F0 m 20 ls []) := by
      intro n_6
      induction n_6 with
      | zero =>
        intro x2_3 hf
        cases hf
      | succ n_6 ih_5 =>
        intro x2_3 hf H locs ls hP hD hS hl
        rw [f_X5_isWord_L20] at hf
        refine lv_iload_n hx hb dX5_isWord_20 rfl (lv_at hl 2 rfl) ?_
        refine lv_aload_n hx hb dX5_isWord_21 rfl (lv_at hl 1 rfl) ?_
        obtain ⟨hin, hf⟩ := gd_some hf
        obtain ⟨z22_7, hz22_7, hf⟩ := bd_some hf
        refine cRi (rest := [.int x2_3]) ⟨hx, hb, hml, hown, hts⟩ hE hK hP hD hS hA (c_J0_length_8abf5 l D cI cJ cZ en  H.size x1 hz22_7) (gv_J0_length_8abf5 w_376) hd_J0_length_8abf5 ⟨rfl, rfl⟩ ⟨by decide, by decide⟩ [] trivial rfl trivial (vk_recv hE.1 hin hS)  hl rfl (Nat.le_of_ble_eq_true rfl) ⟨Nat.zero_le _, Nat.zero_le _⟩ dX5_isWord_22 (fun H locs hP hD hS => ?_)
        have hP : va_P D vwCl [(q_t, .inr (5, [.ref q_t_text, .int v_t_sort, .int v_t_start, .int v_t_end, .ref q_t_parts, .int v_t_lines])), (q_t_text, .inr (7, [.ref q_t_text_bytes, .int v_t_text_length])), (q_t_text_bytes, .inl (cI, 200, .inl v_t_text_bytes)), (q_t_parts, .inl (cI, 3, .inl v_t_parts))] H := hP
        have hD : va_D A [(q_t, .inr (5, [.ref q_t_text, .int v_t_sort, .int v_t_start, .int v_t_end, .ref q_t_parts, .int v_t_lines])), (q_t_text, .inr (7, [.ref q_t_text_bytes, .int v_t_text_length])), (q_t_text_bytes, .inl (cI, 200, .inl v_t_text_bytes)), (q_t_parts, .inl (cI, 3, .inl v_t_parts))] := hD
        refine lv_icmp_ge (tgt := 54) hx hb dX5_isWord_25 (by decide) (fun h_8 => ?_) (fun h_8 => ?_)
        · have hf := (if_pos h_8).symm.trans hf
          refine lv_iconst (v := 1) hx hb dX5_isWord_54 (by decide) ?_
          have hf := Option.some.inj hf
          subst hf
          exact rt_z hx hb hr hlocks hK hP hS (Or.inr rfl) dX5_isWord_55
        · have hf := (if_neg h_8).symm.trans hf
          refine lv_aload_n hx hb dX5_isWord_28 rfl (lv_at hl 0 rfl) ?_
          refine lv_aload_n hx hb dX5_isWord_29 rfl (lv_at hl 0 rfl) ?_
          refine va_get (D := D) (ci := 5) (v := .int v_t_start) (C := RX5) (T := TX5) (N := 6) hx hb hts inX5 hown hK hP 0 rfl rfl 2 (by decide) (hts _ w_106) (fun _ h9 => h9) rfl dX5_isWord_30 ?_
          refine lv_iload_n hx hb dX5_isWord_33 rfl (lv_at hl 2 rfl) ?_
          refine lv_iadd hx hb dX5_isWord_34 ?_
          obtain ⟨z35_9, hz35_9, hf⟩ := bd_some hf
          refine cVi (rest := []) ⟨hx, hb, hml, hown, hts⟩ hE hK hP hD hS hA (c_X5_byteAt l D cI cJ cZ en q_t q_t_text q_t_parts q_t_text_bytes H.size v_t_sort v_t_start v_t_end v_t_lines v_t_text_length v_t_text_bytes v_t_parts (v_t_start + x2_3) hz35_9) (gv_X5_byteAt w_352) hd_X5_byteAt ⟨rfl, rfl⟩ ⟨by decide, by decide⟩ [0, 1, 2, 3] (And.intro rfl (And.intro rfl (And.intro rfl (And.intro rfl trivial)))) rfl (And.intro rfl (And.intro rfl (And.intro rfl (And.intro rfl trivial)))) 5 rfl rfl 0 rfl  hl rfl (Nat.le_of_ble_eq_true rfl) ⟨Nat.zero_le _, Nat.zero_le _⟩ dX5_isWord_35 (fun H locs hP hD hS => ?_)
          have hP : va_P D vwCl [(q_t, .inr (5, [.ref q_t_text, .int v_t_sort, .int v_t_start, .int v_t_end, .ref q_t_parts, .int v_t_lines])), (q_t_text, .inr (7, [.ref q_t_text_bytes, .int v_t_text_length])), (q_t_text_bytes, .inl (cI, 200, .inl v_t_text_bytes)), (q_t_parts, .inl (cI, 3, .inl v_t_parts))] H := hP
          have hD : va_D A [(q_t, .inr (5, [.ref q_t_text, .int v_t_sort, .int v_t_start, .int v_t_end, .ref q_t_parts, .int v_t_lines])), (q_t_text, .inr (7, [.ref q_t_text_bytes, .int v_t_text_length])), (q_t_text_bytes, .inl (cI, 200, .inl v_t_text_bytes)), (q_t_parts, .inl (cI, 3, .inl v_t_parts))] := hD
          refine lv_aload_n hx hb dX5_isWord_38 rfl (lv_at hl 1 rfl) ?_
          refine lv_iload_n hx hb dX5_isWord_39 rfl (lv_at hl 2 rfl) ?_
          obtain ⟨hin, hf⟩ := gd_some hf
          obtain ⟨z40_10, hz40_10, hf⟩ := bd_some hf
          refine cRi (rest := [.int z35_9]) ⟨hx, hb, hml, hown, hts⟩ hE hK hP hD hS hA (c_J0_charAt_5068e l D cI cJ cZ en  H.size x1 x2_3 hz40_10) (gv_J0_charAt_5068e w_386) hd_J0_charAt_5068e ⟨rfl, rfl⟩ ⟨by decide, by decide⟩ [] trivial rfl trivial (vk_recv hE.1 hin hS)  hl rfl (Nat.le_of_ble_eq_true rfl) ⟨Nat.zero_le _, Nat.zero_le _⟩ dX5_isWord_40 (fun H locs hP hD hS => ?_)
          have hP : va_P D vwCl [(q_t, .inr (5, [.ref q_t_text, .int v_t_sort, .int v_t_start, .int v_t_end, .ref q_t_parts, .int v_t_lines])), (q_t_text, .inr (7, [.ref q_t_text_bytes, .int v_t_text_length])), (q_t_text_bytes, .inl (cI, 200, .inl v_t_text_bytes)), (q_t_parts, .inl (cI, 3, .inl v_t_parts))] H := hP
          have hD : va_D A [(q_t, .inr (5, [.ref q_t_text, .int v_t_sort, .int v_t_start, .int v_t_end, .ref q_t_parts, .int v_t_lines])), (q_t_text, .inr (7, [.ref q_t_text_bytes, .int v_t_text_length])), (q_t_text_bytes, .inl (cI, 200, .inl v_t_text_bytes)), (q_t_parts, .inl (cI, 3, .inl v_t_parts))] := hD
          refine lv_icmp_eq (tgt := 48) hx hb dX5_isWord_43 (by decide) (fun h_11 => ?_) (fun h_11 => ?_)
          · have hf := (if_pos h_11).symm.trans hf
            refine lv_iinc (v := (x2_3 + 1)) (lv' := [(2, .int (x2_3 + 1)), (0, .ref q_t), (1, .ref (en.1 x1))]) hx hb dX5_isWord_48 hl (k := 2) rfl rfl (by decide) rfl (fun ls hl => ?_)
            refine lv_goto (tgt := 20) hx hb dX5_isWord_51 (by decide) ?_
            exact ih_5 (x2_3 + 1) hf _ _ _ hP hD hS (lv_sub hl [1, 2, 0] rfl)
          · have hf := (if_neg h_11).symm.trans hf
            refine lv_iconst (v := 0) hx hb dX5_isWord_46 (by decide) ?_
            have hf := Option.some.inj hf
            subst hf
            exact rt_z hx hb hr hlocks hK hP hS (Or.inl rfl) dX5_isWord_47
    exact L20_4 FU 0 hf _ _ _ hP hD hS (lv_sub hl [1, 2, 0] rfl)
  · have hf := (if_neg h_2).symm.trans hf
    refine lv_iconst (v := 0) hx hb dX5_isWord_16 (by decide) ?_
    have hf := Option.some.inj hf
    subst hf
    exact rt_z hx hb hr hlocks hK hP hS (Or.inl rfl) dX5_isWord_17

def f_X5_lineOf (v_t_sort : Int32) (v_t_start : Int32) (v_t_end : Int32) (v_t_text_length : Int32) (v_t_text_bytes : Nat → Int32) : Option (Int32) :=
  (if v_t_sort = 1 then (f_X5_isWord v_t_start v_t_end v_t_text_length v_t_text_bytes 0).bind (fun z13 => (if z13 = 0 then (f_X5_isWord v_t_start v_t_end v_t_text_length v_t_text_bytes 1).bind (fun z24 => (if z24 = 0 then (f_X5_isWord v_t_start v_t_end v_t_text_length v_t_text_bytes 2).bind (fun z35 => (if z35 = 0 then (f_X5_isWord v_t_start v_t_end v_t_text_length v_t_text_bytes 3).bind (fun z46 => (if z46 = 0 then (f_X5_isWord v_t_start v_t_end v_t_text_length v_t_text_bytes 4).bind (fun z57 => (if z57 = 0 then (f_X5_isWord v_t_start v_t_end v_t_text_length v_t_text_bytes 5).bind (fun z68 => (if z68 = 0 then (f_X5_isWord v_t_start v_t_end v_t_text_length v_t_text_bytes 6).bind (fun z80 => (if z80 = 0 then (f_X5_isWord v_t_start v_t_end v_t_text_length v_t_text_bytes 7).bind (fun z92 => (if z92 = 0 then (f_X5_isWord v_t_start v_t_end v_t_text_length v_t_text_bytes 8).bind (fun z104 => (if z104 = 0 then (some 0) else (some 9))) else (some 8))) else (some 7))) else (some 6))) else (some 5))) else (some 4))) else (some 3))) else (some 2))) else (some 1))) else (some 0))
theorem gv_X5_lineOf {own : String} {idx : Nat} (h : Cond.methodLink own idx yX5_lineOf ∈ lw_g) : GoodIn lw_g (wsV own idx RX5 yX5_lineOf (Cond.code yX5_lineOf cX5_lineOf 1 (some .int) :: lw_g)) := gV h w_369 w_3 w_59 w_370
theorem hd_X5_lineOf : yX5_lineOf.cls = RX5 ∧ yX5_lineOf.cls ≠ "java/lang/invoke/MethodHandle" ∧ yX5_lineOf.cls ≠ "java/lang/invoke/VarHandle" ∧ (parseMethodDescriptor yX5_lineOf.desc).map (fun d => d.parameters.length) = some 0 := by decide +kernel
set_option maxHeartbeats 4000000 in
set_option maxRecDepth 100000 in
theorem c_X5_lineOf (l : Launch) (D : va_G) (cI cJ cZ : ClassId) (en : EnT) (q_t q_t_text q_t_parts q_t_text_bytes : Nat) (sz : Nat) (v_t_sort : Int32) (v_t_start : Int32) (v_t_end : Int32) (v_t_lines : Int32) (v_t_text_length : Int32) (v_t_text_bytes : Nat → Int32) (v_t_parts : Nat → Int32) {z : Int32} (hf : f_X5_lineOf v_t_sort v_t_start v_t_end v_t_text_length v_t_text_bytes = some z) : Met l yX5_lineOf (Cond.code yX5_lineOf cX5_lineOf 1 (some .int) :: lw_g) ({ frames := 5, cells := 0, slots := 0, locals := 107 } : Room) (PC D cI cJ cZ en ([.ref q_t] : List Value) [(q_t, .inr (5, [.ref q_t_text, .int v_t_sort, .int v_t_start, .int v_t_end, .ref q_t_parts, .int v_t_lines])), (q_t_text, .inr (7, [.ref q_t_text_bytes, .int v_t_text_length])), (q_t_text_bytes, .inl (cI, 200, .inl v_t_text_bytes)), (q_t_parts, .inl (cI, 3, .inl v_t_parts))] sz) (QI D cI cJ cZ [(q_t, .inr (5, [.ref q_t_text, .int v_t_sort, .int v_t_start, .int v_t_end, .ref q_t_parts, .int v_t_lines])), (q_t_text, .inr (7, [.ref q_t_text_bytes, .int v_t_text_length])), (q_t_text_bytes, .inl (cI, 200, .inl v_t_text_bytes)), (q_t_parts, .inl (cI, 3, .inl v_t_parts))] z (va_A [(q_t, .inr (5, [.ref q_t_text, .int v_t_sort, .int v_t_start, .int v_t_end, .ref q_t_parts, .int v_t_lines])), (q_t_text, .inr (7, [.ref q_t_text_bytes, .int v_t_text_length])), (q_t_text_bytes, .inl (cI, 200, .inl v_t_text_bytes)), (q_t_parts, .inl (cI, 3, .inl v_t_parts))] sz)) 0 0 (va_A [(q_t, .inr (5, [.ref q_t_text, .int v_t_sort, .int v_t_start, .int v_t_end, .ref q_t_parts, .int v_t_lines])), (q_t_text, .inr (7, [.ref q_t_text_bytes, .int v_t_text_length])), (q_t_text_bytes, .inl (cI, 200, .inl v_t_text_bytes)), (q_t_parts, .inl (cI, 3, .inl v_t_parts))] sz) := by
  refine mk_met (Qc := fun A => (QI D cI cJ cZ [(q_t, .inr (5, [.ref q_t_text, .int v_t_sort, .int v_t_start, .int v_t_end, .ref q_t_parts, .int v_t_lines])), (q_t_text, .inr (7, [.ref q_t_text_bytes, .int v_t_text_length])), (q_t_text_bytes, .inl (cI, 200, .inl v_t_text_bytes)), (q_t_parts, .inl (cI, 3, .inl v_t_parts))] z A)) RX5 (by decide) rfl (Nat.le_of_ble_eq_true rfl) ?_
  intro p e s m below meth c ls A hx hb hr hml hown hts hlocks hA hK hE hl hD H locs hP hS
  have hl : lv_has ls 1 [(0, .ref q_t)] := hl
  unfold f_X5_lineOf at hf
  refine lv_aload_n hx hb dX5_lineOf_0 rfl (lv_at hl 0 rfl) ?_
  refine va_get (D := D) (ci := 5) (v := .int v_t_sort) (C := RX5) (T := TX5) (N := 6) hx hb hts inX5 hown hK hP 0 rfl rfl 1 (by decide) (hts _ w_105) (fun _ h9 => h9) rfl dX5_lineOf_1 ?_
  refine lv_iconst (v := 1) hx hb dX5_lineOf_4 (by decide) ?_
  refine lv_icmp_eq (tgt := 10) hx hb dX5_lineOf_5 (by decide) (fun h_1 => ?_) (fun h_1 => ?_)
  · have hf := (if_pos h_1).symm.trans hf
    refine lv_aload_n hx hb dX5_lineOf_10 rfl (lv_at hl 0 rfl) ?_
    refine va_ldcS hx hb hown (hE.2.1 0 (by decide)) dX5_lineOf_11 ?_
    obtain ⟨z13_2, hz13_2, hf⟩ := bd_some hf
    refine cVi (rest := []) ⟨hx, hb, hml, hown, hts⟩ hE hK hP hD hS hA (c_X5_isWord l D cI cJ cZ en q_t q_t_text q_t_parts q_t_text_bytes H.size v_t_sort v_t_start v_t_end v_t_lines v_t_text_length v_t_text_bytes v_t_parts 0 hz13_2) (gv_X5_isWord w_372) hd_X5_isWord ⟨rfl, rfl⟩ ⟨by decide, by decide⟩ [0, 1, 2, 3] (And.intro rfl (And.intro rfl (And.intro rfl (And.intro rfl trivial)))) rfl (And.intro rfl (And.intro rfl (And.intro rfl (And.intro rfl trivial)))) 5 rfl rfl 0 rfl  hl rfl (Nat.le_of_ble_eq_true rfl) ⟨Nat.zero_le _, Nat.zero_le _⟩ dX5_lineOf_13 (fun H locs hP hD hS => ?_)
    have hP : va_P D vwCl [(q_t, .inr (5, [.ref q_t_text, .int v_t_sort, .int v_t_start, .int v_t_end, .ref q_t_parts, .int v_t_lines])), (q_t_text, .inr (7, [.ref q_t_text_bytes, .int v_t_text_length])), (q_t_text_bytes, .inl (cI, 200, .inl v_t_text_bytes)), (q_t_parts, .inl (cI, 3, .inl v_t_parts))] H := hP
    have hD : va_D A [(q_t, .inr (5, [.ref q_t_text, .int v_t_sort, .int v_t_start, .int v_t_end, .ref q_t_parts, .int v_t_lines])), (q_t_text, .inr (7, [.ref q_t_text_bytes, .int v_t_text_length])), (q_t_text_bytes, .inl (cI, 200, .inl v_t_text_bytes)), (q_t_parts, .inl (cI, 3, .inl v_t_parts))] := hD
    refine lv_if_eq (tgt := 21) hx hb dX5_lineOf_16 (by decide) (fun h_3 => ?_) (fun h_3 => ?_)
    · have hf := (if_pos h_3).symm.trans hf
      refine lv_aload_n hx hb dX5_lineOf_21 rfl (lv_at hl 0 rfl) ?_
      refine va_ldcS hx hb hown (hE.2.1 1 (by decide)) dX5_lineOf_22 ?_
      obtain ⟨z24_4, hz24_4, hf⟩ := bd_some hf
      refine cVi (rest := []) ⟨hx, hb, hml, hown, hts⟩ hE hK hP hD hS hA (c_X5_isWord l D cI cJ cZ en q_t q_t_text q_t_parts q_t_text_bytes H.size v_t_sort v_t_start v_t_end v_t_lines v_t_text_length v_t_text_bytes v_t_parts 1 hz24_4) (gv_X5_isWord w_372) hd_X5_isWord ⟨rfl, rfl⟩ ⟨by decide, by decide⟩ [0, 1, 2, 3] (And.intro rfl (And.intro rfl (And.intro rfl (And.intro rfl trivial)))) rfl (And.intro rfl (And.intro rfl (And.intro rfl (And.intro rfl trivial)))) 5 rfl rfl 0 rfl  hl rfl (Nat.le_of_ble_eq_true rfl) ⟨Nat.zero_le _, Nat.zero_le _⟩ dX5_lineOf_24 (fun H locs hP hD hS => ?_)
      have hP : va_P D vwCl [(q_t, .inr (5, [.ref q_t_text, .int v_t_sort, .int v_t_start, .int v_t_end, .ref q_t_parts, .int v_t_lines])), (q_t_text, .inr (7, [.ref q_t_text_bytes, .int v_t_text_length])), (q_t_text_bytes, .inl (cI, 200, .inl v_t_text_bytes)), (q_t_parts, .inl (cI, 3, .inl v_t_parts))] H := hP
      have hD : va_D A [(q_t, .inr (5, [.ref q_t_text, .int v_t_sort, .int v_t_start, .int v_t_end, .ref q_t_parts, .int v_t_lines])), (q_t_text, .inr (7, [.ref q_t_text_bytes, .int v_t_text_length])), (q_t_text_bytes, .inl (cI, 200, .inl v_t_text_bytes)), (q_t_parts, .inl (cI, 3, .inl v_t_parts))] := hD
      refine lv_if_eq (tgt := 32) hx hb dX5_lineOf_27 (by decide) (fun h_5 => ?_) (fun h_5 => ?_)
      · have hf := (if_pos h_5).symm.trans hf
        refine lv_aload_n hx hb dX5_lineOf_32 rfl (lv_at hl 0 rfl) ?_
        refine va_ldcS hx hb hown (hE.2.1 2 (by decide)) dX5_lineOf_33 ?_
        obtain ⟨z35_6, hz35_6, hf⟩ := bd_some hf
        refine cVi (rest := []) ⟨hx, hb, hml, hown, hts⟩ hE hK hP hD hS hA (c_X5_isWord l D cI cJ cZ en q_t q_t_text q_t_parts q_t_text_bytes H.size v_t_sort v_t_start v_t_end v_t_lines v_t_text_length v_t_text_bytes v_t_parts 2 hz35_6) (gv_X5_isWord w_372) hd_X5_isWord ⟨rfl, rfl⟩ ⟨by decide, by decide⟩ [0, 1, 2, 3] (And.intro rfl (And.intro rfl (And.intro rfl (And.intro rfl trivial)))) rfl (And.intro rfl (And.intro rfl (And.intro rfl (And.intro rfl trivial)))) 5 rfl rfl 0 rfl  hl rfl (Nat.le_of_ble_eq_true rfl) ⟨Nat.zero_le _, Nat.zero_le _⟩ dX5_lineOf_35 (fun H locs hP hD hS => ?_)
        have hP : va_P D vwCl [(q_t, .inr (5, [.ref q_t_text, .int v_t_sort, .int v_t_start, .int v_t_end, .ref q_t_parts, .int v_t_lines])), (q_t_text, .inr (7, [.ref q_t_text_bytes, .int v_t_text_length])), (q_t_text_bytes, .inl (cI, 200, .inl v_t_text_bytes)), (q_t_parts, .inl (cI, 3, .inl v_t_parts))] H := hP
        have hD : va_D A [(q_t, .inr (5, [.ref q_t_text, .int v_t_sort, .int v_t_start, .int v_t_end, .ref q_t_parts, .int v_t_lines])), (q_t_text, .inr (7, [.ref q_t_text_bytes, .int v_t_text_length])), (q_t_text_bytes, .inl (cI, 200, .inl v_t_text_bytes)), (q_t_parts, .inl (cI, 3, .inl v_t_parts))] := hD
        refine lv_if_eq (tgt := 43) hx hb dX5_lineOf_38 (by decide) (fun h_7 => ?_) (fun h_7 => ?_)
        · have hf := (if_pos h_7).symm.trans hf
          refine lv_aload_n hx hb dX5_lineOf_43 rfl (lv_at hl 0 rfl) ?_
          refine va_ldcS hx hb hown (hE.2.1 3 (by decide)) dX5_lineOf_44 ?_
          obtain ⟨z46_8, hz46_8, hf⟩ := bd_some hf
          refine cVi (rest := []) ⟨hx, hb, hml, hown, hts⟩ hE hK hP hD hS hA (c_X5_isWord l D cI cJ cZ en q_t q_t_text q_t_parts q_t_text_bytes H.size v_t_sort v_t_start v_t_end v_t_lines v_t_text_length v_t_text_bytes v_t_parts 3 hz46_8) (gv_X5_isWord w_372) hd_X5_isWord ⟨rfl, rfl⟩ ⟨by decide, by decide⟩ [0, 1, 2, 3] (And.intro rfl (And.intro rfl (And.intro rfl (And.intro rfl trivial)))) rfl (And.intro rfl (And.intro rfl (And.intro rfl (And.intro rfl trivial)))) 5 rfl rfl 0 rfl  hl rfl (Nat.le_of_ble_eq_true rfl) ⟨Nat.zero_le _, Nat.zero_le _⟩ dX5_lineOf_46 (fun H locs hP hD hS => ?_)
          have hP : va_P D vwCl [(q_t, .inr (5, [.ref q_t_text, .int v_t_sort, .int v_t_start, .int v_t_end, .ref q_t_parts, .int v_t_lines])), (q_t_text, .inr (7, [.ref q_t_text_bytes, .int v_t_text_length])), (q_t_text_bytes, .inl (cI, 200, .inl v_t_text_bytes)), (q_t_parts, .inl (cI, 3, .inl v_t_parts))] H := hP
          have hD : va_D A [(q_t, .inr (5, [.ref q_t_text, .int v_t_sort, .int v_t_start, .int v_t_end, .ref q_t_parts, .int v_t_lines])), (q_t_text, .inr (7, [.ref q_t_text_bytes, .int v_t_text_length])), (q_t_text_bytes, .inl (cI, 200, .inl v_t_text_bytes)), (q_t_parts, .inl (cI, 3, .inl v_t_parts))] := hD
          refine lv_if_eq (tgt := 54) hx hb dX5_lineOf_49 (by decide) (fun h_9 => ?_) (fun h_9 => ?_)
          · have hf := (if_pos h_9).symm.trans hf
            refine lv_aload_n hx hb dX5_lineOf_54 rfl (lv_at hl 0 rfl) ?_
            refine va_ldcS hx hb hown (hE.2.1 4 (by decide)) dX5_lineOf_55 ?_
            obtain ⟨z57_10, hz57_10, hf⟩ := bd_some hf
            refine cVi (rest := []) ⟨hx, hb, hml, hown, hts⟩ hE hK hP hD hS hA (c_X5_isWord l D cI cJ cZ en q_t q_t_text q_t_parts q_t_text_bytes H.size v_t_sort v_t_start v_t_end v_t_lines v_t_text_length v_t_text_bytes v_t_parts 4 hz57_10) (gv_X5_isWord w_372) hd_X5_isWord ⟨rfl, rfl⟩ ⟨by decide, by decide⟩ [0, 1, 2, 3] (And.intro rfl (And.intro rfl (And.intro rfl (And.intro rfl trivial)))) rfl (And.intro rfl (And.intro rfl (And.intro rfl (And.intro rfl trivial)))) 5 rfl rfl 0 rfl  hl rfl (Nat.le_of_ble_eq_true rfl) ⟨Nat.zero_le _, Nat.zero_le _⟩ dX5_lineOf_57 (fun H locs hP hD hS => ?_)
            have hP : va_P D vwCl [(q_t, .inr (5, [.ref q_t_text, .int v_t_sort, .int v_t_start, .int v_t_end, .ref q_t_parts, .int v_t_lines])), (q_t_text, .inr (7, [.ref q_t_text_bytes, .int v_t_text_length])), (q_t_text_bytes, .inl (cI, 200, .inl v_t_text_bytes)), (q_t_parts, .inl (cI, 3, .inl v_t_parts))] H := hP
            have hD : va_D A [(q_t, .inr (5, [.ref q_t_text, .int v_t_sort, .int v_t_start, .int v_t_end, .ref q_t_parts, .int v_t_lines])), (q_t_text, .inr (7, [.ref q_t_text_bytes, .int v_t_text_length])), (q_t_text_bytes, .inl (cI, 200, .inl v_t_text_bytes)), (q_t_parts, .inl (cI, 3, .inl v_t_parts))] := hD
            refine lv_if_eq (tgt := 65) hx hb dX5_lineOf_60 (by decide) (fun h_11 => ?_) (fun h_11 => ?_)
            · have hf := (if_pos h_11).symm.trans hf
              refine lv_aload_n hx hb dX5_lineOf_65 rfl (lv_at hl 0 rfl) ?_
              refine va_ldcS hx hb hown (hE.2.1 5 (by decide)) dX5_lineOf_66 ?_
              obtain ⟨z68_12, hz68_12, hf⟩ := bd_some hf
              refine cVi (rest := []) ⟨hx, hb, hml, hown, hts⟩ hE hK hP hD hS hA (c_X5_isWord l D cI cJ cZ en q_t q_t_text q_t_parts q_t_text_bytes H.size v_t_sort v_t_start v_t_end v_t_lines v_t_text_length v_t_text_bytes v_t_parts 5 hz68_12) (gv_X5_isWord w_372) hd_X5_isWord ⟨rfl, rfl⟩ ⟨by decide, by decide⟩ [0, 1, 2, 3] (And.intro rfl (And.intro rfl (And.intro rfl (And.intro rfl trivial)))) rfl (And.intro rfl (And.intro rfl (And.intro rfl (And.intro rfl trivial)))) 5 rfl rfl 0 rfl  hl rfl (Nat.le_of_ble_eq_true rfl) ⟨Nat.zero_le _, Nat.zero_le _⟩ dX5_lineOf_68 (fun H locs hP hD hS => ?_)
              have hP : va_P D vwCl [(q_t, .inr (5, [.ref q_t_text, .int v_t_sort, .int v_t_start, .int v_t_end, .ref q_t_parts, .int v_t_lines])), (q_t_text, .inr (7, [.ref q_t_text_bytes, .int v_t_text_length])), (q_t_text_bytes, .inl (cI, 200, .inl v_t_text_bytes)), (q_t_parts, .inl (cI, 3, .inl v_t_parts))] H := hP
              have hD : va_D A [(q_t, .inr (5, [.ref q_t_text, .int v_t_sort, .int v_t_start, .int v_t_end, .ref q_t_parts, .int v_t_lines])), (q_t_text, .inr (7, [.ref q_t_text_bytes, .int v_t_text_length])), (q_t_text_bytes, .inl (cI, 200, .inl v_t_text_bytes)), (q_t_parts, .inl (cI, 3, .inl v_t_parts))] := hD
              refine lv_if_eq (tgt := 77) hx hb dX5_lineOf_71 (by decide) (fun h_13 => ?_) (fun h_13 => ?_)
              · have hf := (if_pos h_13).symm.trans hf
                refine lv_aload_n hx hb dX5_lineOf_77 rfl (lv_at hl 0 rfl) ?_
                refine va_ldcS hx hb hown (hE.2.1 6 (by decide)) dX5_lineOf_78 ?_
                obtain ⟨z80_14, hz80_14, hf⟩ := bd_some hf
                refine cVi (rest := []) ⟨hx, hb, hml, hown, hts⟩ hE hK hP hD hS hA (c_X5_isWord l D cI cJ cZ en q_t q_t_text q_t_parts q_t_text_bytes H.size v_t_sort v_t_start v_t_end v_t_lines v_t_text_length v_t_text_bytes v_t_parts 6 hz80_14) (gv_X5_isWord w_372) hd_X5_isWord ⟨rfl, rfl⟩ ⟨by decide, by decide⟩ [0, 1, 2, 3] (And.intro rfl (And.intro rfl (And.intro rfl (And.intro rfl trivial)))) rfl (And.intro rfl (And.intro rfl (And.intro rfl (And.intro rfl trivial)))) 5 rfl rfl 0 rfl  hl rfl (Nat.le_of_ble_eq_true rfl) ⟨Nat.zero_le _, Nat.zero_le _⟩ dX5_lineOf_80 (fun H locs hP hD hS => ?_)
                have hP : va_P D vwCl [(q_t, .inr (5, [.ref q_t_text, .int v_t_sort, .int v_t_start, .int v_t_end, .ref q_t_parts, .int v_t_lines])), (q_t_text, .inr (7, [.ref q_t_text_bytes, .int v_t_text_length])), (q_t_text_bytes, .inl (cI, 200, .inl v_t_text_bytes)), (q_t_parts, .inl (cI, 3, .inl v_t_parts))] H := hP
                have hD : va_D A [(q_t, .inr (5, [.ref q_t_text, .int v_t_sort, .int v_t_start, .int v_t_end, .ref q_t_parts, .int v_t_lines])), (q_t_text, .inr (7, [.ref q_t_text_bytes, .int v_t_text_length])), (q_t_text_bytes, .inl (cI, 200, .inl v_t_text_bytes)), (q_t_parts, .inl (cI, 3, .inl v_t_parts))] := hD
                refine lv_if_eq (tgt := 89) hx hb dX5_lineOf_83 (by decide) (fun h_15 => ?_) (fun h_15 => ?_)
                · have hf := (if_pos h_15).symm.trans hf
                  refine lv_aload_n hx hb dX5_lineOf_89 rfl (lv_at hl 0 rfl) ?_
                  refine va_ldcS hx hb hown (hE.2.1 7 (by decide)) dX5_lineOf_90 ?_
                  obtain ⟨z92_16, hz92_16, hf⟩ := bd_some hf
                  refine cVi (rest := []) ⟨hx, hb, hml, hown, hts⟩ hE hK hP hD hS hA (c_X5_isWord l D cI cJ cZ en q_t q_t_text q_t_parts q_t_text_bytes H.size v_t_sort v_t_start v_t_end v_t_lines v_t_text_length v_t_text_bytes v_t_parts 7 hz92_16) (gv_X5_isWord w_372) hd_X5_isWord ⟨rfl, rfl⟩ ⟨by decide, by decide⟩ [0, 1, 2, 3] (And.intro rfl (And.intro rfl (And.intro rfl (And.intro rfl trivial)))) rfl (And.intro rfl (And.intro rfl (And.intro rfl (And.intro rfl trivial)))) 5 rfl rfl 0 rfl  hl rfl (Nat.le_of_ble_eq_true rfl) ⟨Nat.zero_le _, Nat.zero_le _⟩ dX5_lineOf_92 (fun H locs hP hD hS => ?_)
                  have hP : va_P D vwCl [(q_t, .inr (5, [.ref q_t_text, .int v_t_sort, .int v_t_start, .int v_t_end, .ref q_t_parts, .int v_t_lines])), (q_t_text, .inr (7, [.ref q_t_text_bytes, .int v_t_text_length])), (q_t_text_bytes, .inl (cI, 200, .inl v_t_text_bytes)), (q_t_parts, .inl (cI, 3, .inl v_t_parts))] H := hP
                  have hD : va_D A [(q_t, .inr (5, [.ref q_t_text, .int v_t_sort, .int v_t_start, .int v_t_end, .ref q_t_parts, .int v_t_lines])), (q_t_text, .inr (7, [.ref q_t_text_bytes, .int v_t_text_length])), (q_t_text_bytes, .inl (cI, 200, .inl v_t_text_bytes)), (q_t_parts, .inl (cI, 3, .inl v_t_parts))] := hD
                  refine lv_if_eq (tgt := 101) hx hb dX5_lineOf_95 (by decide) (fun h_17 => ?_) (fun h_17 => ?_)
                  · have hf := (if_pos h_17).symm.trans hf
                    refine lv_aload_n hx hb dX5_lineOf_101 rfl (lv_at hl 0 rfl) ?_
                    refine va_ldcS hx hb hown (hE.2.1 8 (by decide)) dX5_lineOf_102 ?_
                    obtain ⟨z104_18, hz104_18, hf⟩ := bd_some hf
                    refine cVi (rest := []) ⟨hx, hb, hml, hown, hts⟩ hE hK hP hD hS hA (c_X5_isWord l D cI cJ cZ en q_t q_t_text q_t_parts q_t_text_bytes H.size v_t_sort v_t_start v_t_end v_t_lines v_t_text_length v_t_text_bytes v_t_parts 8 hz104_18) (gv_X5_isWord w_372) hd_X5_isWord ⟨rfl, rfl⟩ ⟨by decide, by decide⟩ [0, 1, 2, 3] (And.intro rfl (And.intro rfl (And.intro rfl (And.intro rfl trivial)))) rfl (And.intro rfl (And.intro rfl (And.intro rfl (And.intro rfl trivial)))) 5 rfl rfl 0 rfl  hl rfl (Nat.le_of_ble_eq_true rfl) ⟨Nat.zero_le _, Nat.zero_le _⟩ dX5_lineOf_104 (fun H locs hP hD hS => ?_)
                    have hP : va_P D vwCl [(q_t, .inr (5, [.ref q_t_text, .int v_t_sort, .int v_t_start, .int v_t_end, .ref q_t_parts, .int v_t_lines])), (q_t_text, .inr (7, [.ref q_t_text_bytes, .int v_t_text_length])), (q_t_text_bytes, .inl (cI, 200, .inl v_t_text_bytes)), (q_t_parts, .inl (cI, 3, .inl v_t_parts))] H := hP
                    have hD : va_D A [(q_t, .inr (5, [.ref q_t_text, .int v_t_sort, .int v_t_start, .int v_t_end, .ref q_t_parts, .int v_t_lines])), (q_t_text, .inr (7, [.ref q_t_text_bytes, .int v_t_text_length])), (q_t_text_bytes, .inl (cI, 200, .inl v_t_text_bytes)), (q_t_parts, .inl (cI, 3, .inl v_t_parts))] := hD
                    refine lv_if_eq (tgt := 115) hx hb dX5_lineOf_107 (by decide) (fun h_19 => ?_) (fun h_19 => ?_)
                    · have hf := (if_pos h_19).symm.trans hf
                      refine lv_iconst (v := 0) hx hb dX5_lineOf_115 (by decide) ?_
                      have hf := Option.some.inj hf
                      subst hf
                      exact rt_i hx hb hr hlocks hK hP hS dX5_lineOf_116
                    · have hf := (if_neg h_19).symm.trans hf
                      refine lv_bipush (v := 9) hx hb dX5_lineOf_110 (by decide) ?_
                      refine lv_goto (tgt := 116) hx hb dX5_lineOf_112 (by decide) ?_
                      have hf := Option.some.inj hf
                      subst hf
                      exact rt_i hx hb hr hlocks hK hP hS dX5_lineOf_116
                  · have hf := (if_neg h_17).symm.trans hf
                    refine lv_bipush (v := 8) hx hb dX5_lineOf_98 (by decide) ?_
                    have hf := Option.some.inj hf
                    subst hf
                    exact rt_i hx hb hr hlocks hK hP hS dX5_lineOf_100
                · have hf := (if_neg h_15).symm.trans hf
                  refine lv_bipush (v := 7) hx hb dX5_lineOf_86 (by decide) ?_
                  have hf := Option.some.inj hf
                  subst hf
                  exact rt_i hx hb hr hlocks hK hP hS dX5_lineOf_88
              · have hf := (if_neg h_13).symm.trans hf
                refine lv_bipush (v := 6) hx hb dX5_lineOf_74 (by decide) ?_
                have hf := Option.some.inj hf
                subst hf
                exact rt_i hx hb hr hlocks hK hP hS dX5_lineOf_76
            · have hf := (if_neg h_11).symm.trans hf
              refine lv_iconst (v := 5) hx hb dX5_lineOf_63 (by decide) ?_
              have hf := Option.some.inj hf
              subst hf
              exact rt_i hx hb hr hlocks hK hP hS dX5_lineOf_64
          · have hf := (if_neg h_9).symm.trans hf
            refine lv_iconst (v := 4) hx hb dX5_lineOf_52 (by decide) ?_
            have hf := Option.some.inj hf
            subst hf
            exact rt_i hx hb hr hlocks hK hP hS dX5_lineOf_53
        · have hf := (if_neg h_7).symm.trans hf
          refine lv_iconst (v := 3) hx hb dX5_lineOf_41 (by decide) ?_
          have hf := Option.some.inj hf
          subst hf
          exact rt_i hx hb hr hlocks hK hP hS dX5_lineOf_42
      · have hf := (if_neg h_5).symm.trans hf
        refine lv_iconst (v := 2) hx hb dX5_lineOf_30 (by decide) ?_
        have hf := Option.some.inj hf
        subst hf
        exact rt_i hx hb hr hlocks hK hP hS dX5_lineOf_31
    · have hf := (if_neg h_3).symm.trans hf
      refine lv_iconst (v := 1) hx hb dX5_lineOf_19 (by decide) ?_
      have hf := Option.some.inj hf
      subst hf
      exact rt_i hx hb hr hlocks hK hP hS dX5_lineOf_20
  · have hf := (if_neg h_1).symm.trans hf
    refine lv_iconst (v := 0) hx hb dX5_lineOf_8 (by decide) ?_
    have hf := Option.some.inj hf
    subst hf
    exact rt_i hx hb hr hlocks hK hP hS dX5_lineOf_9

def f_X5_formsOf (x0 : Int32) : Option (Nat) :=
  (if x0 = 1 then (some 9) else (if x0 = 2 then (some 10) else (if x0 = 3 then (some 11) else (if x0 = 4 then (some 12) else (if x0 = 5 then (some 13) else (if x0 = 6 then (some 14) else (if x0 = 8 then (some 15) else (if x0 = 9 then (some 16) else (some 17)))))))))
theorem gs_X5_formsOf {own : String} {idx : Nat} (h : Cond.methodLink own idx yX5_formsOf ∈ lw_g) : GoodIn lw_g (va_wsS own idx yX5_formsOf (Cond.code yX5_formsOf cX5_formsOf 1 (some (.object "java/lang/String")) :: lw_g)) := gS h w_433 w_59 w_434
theorem hd_X5_formsOf : yX5_formsOf.cls ≠ "java/lang/invoke/MethodHandle" ∧ yX5_formsOf.cls ≠ "java/lang/invoke/VarHandle" ∧ (parseMethodDescriptor yX5_formsOf.desc).map (fun d => d.parameters.length) = some 1 := by decide +kernel
set_option maxHeartbeats 4000000 in
set_option maxRecDepth 100000 in
theorem c_X5_formsOf (l : Launch) (D : va_G) (cI cJ cZ : ClassId) (en : EnT) (sz : Nat) (x0 : Int32) {z : Nat} (hf : f_X5_formsOf x0 = some z) : Met l yX5_formsOf (Cond.code yX5_formsOf cX5_formsOf 1 (some (.object "java/lang/String")) :: lw_g) ({ frames := 0, cells := 0, slots := 0, locals := 0 } : Room) (PC D cI cJ cZ en ([.int x0] : List Value) [] sz) (QO D cI cJ cZ [] (some (en.1 z)) (va_A [] sz)) 0 0 (va_A [] sz) := by
  refine mk_met (Qc := fun A => (QO D cI cJ cZ [] (some (en.1 z)) A)) RX5 (by decide) rfl (Nat.le_of_ble_eq_true rfl) ?_
  intro p e s m below meth c ls A hx hb hr hml hown hts hlocks hA hK hE hl hD H locs hP hS
  have hl : lv_has ls 1 [(0, .int x0)] := hl
  unfold f_X5_formsOf at hf
  refine lv_iload_n hx hb dX5_formsOf_0 rfl (lv_at hl 0 rfl) ?_
  by_cases h_1 : x0 = 1
  · have hf := (if_pos h_1).symm.trans hf
    refine lv_tableIn (off := 51) (tgt := 52) hx hb dX5_formsOf_1 (by rw [h_1]; decide) (by rw [h_1]; decide) (by rw [h_1]; rfl) (by decide) ?_
    refine va_ldcS hx hb hown (hE.2.1 9 (by decide)) dX5_formsOf_52 ?_
    have hf := Option.some.inj hf
    subst hf
    exact rt_o hx hb hr hlocks hK hP hS dX5_formsOf_54
  · have hf := (if_neg h_1).symm.trans hf
    by_cases h_2 : x0 = 2
    · have hf := (if_pos h_2).symm.trans hf
      refine lv_tableIn (off := 54) (tgt := 55) hx hb dX5_formsOf_1 (by rw [h_2]; decide) (by rw [h_2]; decide) (by rw [h_2]; rfl) (by decide) ?_
      refine va_ldcS hx hb hown (hE.2.1 10 (by decide)) dX5_formsOf_55 ?_
      have hf := Option.some.inj hf
      subst hf
      exact rt_o hx hb hr hlocks hK hP hS dX5_formsOf_57
    · have hf := (if_neg h_2).symm.trans hf
      by_cases h_3 : x0 = 3
      · have hf := (if_pos h_3).symm.trans hf
        refine lv_tableIn (off := 57) (tgt := 58) hx hb dX5_formsOf_1 (by rw [h_3]; decide) (by rw [h_3]; decide) (by rw [h_3]; rfl) (by decide) ?_
        refine va_ldcS hx hb hown (hE.2.1 11 (by decide)) dX5_formsOf_58 ?_
        have hf := Option.some.inj hf
        subst hf
        exact rt_o hx hb hr hlocks hK hP hS dX5_formsOf_60
      · have hf := (if_neg h_3).symm.trans hf
        by_cases h_4 : x0 = 4
        · have hf := (if_pos h_4).symm.trans hf
          refine lv_tableIn (off := 60) (tgt := 61) hx hb dX5_formsOf_1 (by rw [h_4]; decide) (by rw [h_4]; decide) (by rw [h_4]; rfl) (by decide) ?_
          refine va_ldcS hx hb hown (hE.2.1 12 (by decide)) dX5_formsOf_61 ?_
          have hf := Option.some.inj hf
          subst hf
          exact rt_o hx hb hr hlocks hK hP hS dX5_formsOf_63
        · have hf := (if_neg h_4).symm.trans hf
          by_cases h_5 : x0 = 5
          · have hf := (if_pos h_5).symm.trans hf
            refine lv_tableIn (off := 63) (tgt := 64) hx hb dX5_formsOf_1 (by rw [h_5]; decide) (by rw [h_5]; decide) (by rw [h_5]; rfl) (by decide) ?_
            refine va_ldcS hx hb hown (hE.2.1 13 (by decide)) dX5_formsOf_64 ?_
            have hf := Option.some.inj hf
            subst hf
            exact rt_o hx hb hr hlocks hK hP hS dX5_formsOf_66
          · have hf := (if_neg h_5).symm.trans hf
            by_cases h_6 : x0 = 6
            · have hf := (if_pos h_6).symm.trans hf
              refine lv_tableIn (off := 66) (tgt := 67) hx hb dX5_formsOf_1 (by rw [h_6]; decide) (by rw [h_6]; decide) (by rw [h_6]; rfl) (by decide) ?_
              refine va_ldcS hx hb hown (hE.2.1 14 (by decide)) dX5_formsOf_67 ?_
              have hf := Option.some.inj hf
              subst hf
              exact rt_o hx hb hr hlocks hK hP hS dX5_formsOf_69
            · have hf := (if_neg h_6).symm.trans hf
              by_cases h_7 : x0 = 8
              · have hf := (if_pos h_7).symm.trans hf
                refine lv_tableIn (off := 69) (tgt := 70) hx hb dX5_formsOf_1 (by rw [h_7]; decide) (by rw [h_7]; decide) (by rw [h_7]; rfl) (by decide) ?_
                refine va_ldcS hx hb hown (hE.2.1 15 (by decide)) dX5_formsOf_70 ?_
                have hf := Option.some.inj hf
                subst hf
                exact rt_o hx hb hr hlocks hK hP hS dX5_formsOf_72
              · have hf := (if_neg h_7).symm.trans hf
                by_cases h_8 : x0 = 9
                · have hf := (if_pos h_8).symm.trans hf
                  refine lv_tableIn (off := 72) (tgt := 73) hx hb dX5_formsOf_1 (by rw [h_8]; decide) (by rw [h_8]; decide) (by rw [h_8]; rfl) (by decide) ?_
                  refine va_ldcS hx hb hown (hE.2.1 16 (by decide)) dX5_formsOf_73 ?_
                  have hf := Option.some.inj hf
                  subst hf
                  exact rt_o hx hb hr hlocks hK hP hS dX5_formsOf_75
                · have hf := (if_neg h_8).symm.trans hf
                  refine tb_out2 (tgt := 76) hx hb dX5_formsOf_1 rfl [1, 2, 3, 4, 5, 6, 8, 9] (List.forall_mem_cons.mpr ⟨h_1, List.forall_mem_cons.mpr ⟨h_2, List.forall_mem_cons.mpr ⟨h_3, List.forall_mem_cons.mpr ⟨h_4, List.forall_mem_cons.mpr ⟨h_5, List.forall_mem_cons.mpr ⟨h_6, List.forall_mem_cons.mpr ⟨h_7, List.forall_mem_cons.mpr ⟨h_8, fun _ h9 => absurd h9 List.not_mem_nil⟩⟩⟩⟩⟩⟩⟩⟩) (by decide +kernel) (by decide) ?_
                  refine va_ldcS hx hb hown (hE.2.1 17 (by decide)) dX5_formsOf_76 ?_
                  have hf := Option.some.inj hf
                  subst hf
                  exact rt_o hx hb hr hlocks hK hP hS dX5_formsOf_78

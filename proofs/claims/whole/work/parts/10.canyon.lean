def f_X2_has (v_t_columns : Int32) (v_t_rows : Int32) (x1 : Int32) : Option (Int32) :=
  (if x1 < 0 then (some 0) else (if (v_t_columns * v_t_rows) ≤ x1 then (some 0) else (if 36 ≤ x1 then (some 0) else (some 1))))
theorem gv_X2_has {own : String} {idx : Nat} (h : Cond.methodLink own idx yX2_has ∈ lw_g) : GoodIn lw_g (wsV own idx RX2 yX2_has (Cond.code yX2_has cX2_has 2 (some .boolean) :: lw_g)) := gV h w_465 w_466 w_60 w_467
theorem hd_X2_has : yX2_has.cls = RX2 ∧ yX2_has.cls ≠ "java/lang/invoke/MethodHandle" ∧ yX2_has.cls ≠ "java/lang/invoke/VarHandle" ∧ (parseMethodDescriptor yX2_has.desc).map (fun d => d.parameters.length) = some 1 := by decide +kernel
set_option maxHeartbeats 4000000 in
set_option maxRecDepth 100000 in
theorem c_X2_has (l : Launch) (D : va_G) (cI cJ cZ : ClassId) (en : EnT) (q_t q_t_ground q_t_windows q_t_lawParts : Nat) (sz : Nat) (v_t_columns : Int32) (v_t_rows : Int32) (v_t_fade : Int32) (v_t_laws : Int32) (v_t_nightHours : Int32) (v_t_nightTimes : Int32) (v_t_ground : Nat → Int32) (v_t_windows : Nat → Int32) (v_t_lawParts : Nat → Int32) (x1 : Int32) {z : Int32} (hf : f_X2_has v_t_columns v_t_rows x1 = some z) : Met l yX2_has (Cond.code yX2_has cX2_has 2 (some .boolean) :: lw_g) ({ frames := 0, cells := 0, slots := 0, locals := 0 } : Room) (PC D cI cJ cZ en ([.ref q_t, .int x1] : List Value) [(q_t, .inr (2, [.int v_t_columns, .int v_t_rows, .int v_t_fade, .int v_t_laws, .int v_t_nightHours, .int v_t_nightTimes, .ref q_t_ground, .ref q_t_windows, .ref q_t_lawParts])), (q_t_ground, .inl (cI, 36, .inl v_t_ground)), (q_t_windows, .inl (cI, 6, .inl v_t_windows)), (q_t_lawParts, .inl (cI, 18, .inl v_t_lawParts))] sz) (QI D cI cJ cZ [(q_t, .inr (2, [.int v_t_columns, .int v_t_rows, .int v_t_fade, .int v_t_laws, .int v_t_nightHours, .int v_t_nightTimes, .ref q_t_ground, .ref q_t_windows, .ref q_t_lawParts])), (q_t_ground, .inl (cI, 36, .inl v_t_ground)), (q_t_windows, .inl (cI, 6, .inl v_t_windows)), (q_t_lawParts, .inl (cI, 18, .inl v_t_lawParts))] z (va_A [(q_t, .inr (2, [.int v_t_columns, .int v_t_rows, .int v_t_fade, .int v_t_laws, .int v_t_nightHours, .int v_t_nightTimes, .ref q_t_ground, .ref q_t_windows, .ref q_t_lawParts])), (q_t_ground, .inl (cI, 36, .inl v_t_ground)), (q_t_windows, .inl (cI, 6, .inl v_t_windows)), (q_t_lawParts, .inl (cI, 18, .inl v_t_lawParts))] sz)) 0 0 (va_A [(q_t, .inr (2, [.int v_t_columns, .int v_t_rows, .int v_t_fade, .int v_t_laws, .int v_t_nightHours, .int v_t_nightTimes, .ref q_t_ground, .ref q_t_windows, .ref q_t_lawParts])), (q_t_ground, .inl (cI, 36, .inl v_t_ground)), (q_t_windows, .inl (cI, 6, .inl v_t_windows)), (q_t_lawParts, .inl (cI, 18, .inl v_t_lawParts))] sz) := by
  refine mk_met (Qc := fun A => (QI D cI cJ cZ [(q_t, .inr (2, [.int v_t_columns, .int v_t_rows, .int v_t_fade, .int v_t_laws, .int v_t_nightHours, .int v_t_nightTimes, .ref q_t_ground, .ref q_t_windows, .ref q_t_lawParts])), (q_t_ground, .inl (cI, 36, .inl v_t_ground)), (q_t_windows, .inl (cI, 6, .inl v_t_windows)), (q_t_lawParts, .inl (cI, 18, .inl v_t_lawParts))] z A)) RX2 (by decide) rfl (Nat.le_of_ble_eq_true rfl) ?_
  intro p e s m below meth c ls A hx hb hr hml hown hts hlocks hA hK hE hl hD H locs hP hS
  have hl : lv_has ls 2 [(0, .ref q_t), (1, .int x1)] := hl
  unfold f_X2_has at hf
  refine lv_iload_n hx hb dX2_has_0 rfl (lv_at hl 1 rfl) ?_
  refine lv_if_lt (tgt := 27) hx hb dX2_has_1 (by decide) (fun h_1 => ?_) (fun h_1 => ?_)
  · have hf := (if_pos h_1).symm.trans hf
    refine lv_iconst (v := 0) hx hb dX2_has_27 (by decide) ?_
    cases hf
    exact rt_z hx hb hr hlocks hK hP hS (Or.inl rfl) dX2_has_28
  · have hf := (if_neg h_1).symm.trans hf
    refine lv_iload_n hx hb dX2_has_4 rfl (lv_at hl 1 rfl) ?_
    refine lv_aload_n hx hb dX2_has_5 rfl (lv_at hl 0 rfl) ?_
    refine va_get (D := D) (ci := 2) (v := .int v_t_columns) (C := RX2) (T := TX2) (N := 9) hx hb hts inX2 hown hK hP 0 rfl rfl 0 (by decide) (hts _ w_133) (fun _ h9 => h9) rfl dX2_has_6 ?_
    refine lv_aload_n hx hb dX2_has_9 rfl (lv_at hl 0 rfl) ?_
    refine va_get (D := D) (ci := 2) (v := .int v_t_rows) (C := RX2) (T := TX2) (N := 9) hx hb hts inX2 hown hK hP 0 rfl rfl 1 (by decide) (hts _ w_136) (fun _ h9 => h9) rfl dX2_has_10 ?_
    refine lv_imul hx hb dX2_has_13 ?_
    refine lv_icmp_ge (tgt := 27) hx hb dX2_has_14 (by decide) (fun h_2 => ?_) (fun h_2 => ?_)
    · have hf := (if_pos h_2).symm.trans hf
      refine lv_iconst (v := 0) hx hb dX2_has_27 (by decide) ?_
      cases hf
      exact rt_z hx hb hr hlocks hK hP hS (Or.inl rfl) dX2_has_28
    · have hf := (if_neg h_2).symm.trans hf
      refine lv_iload_n hx hb dX2_has_17 rfl (lv_at hl 1 rfl) ?_
      refine lv_bipush (v := 36) hx hb dX2_has_18 (by decide) ?_
      refine lv_icmp_ge (tgt := 27) hx hb dX2_has_20 (by decide) (fun h_3 => ?_) (fun h_3 => ?_)
      · have hf := (if_pos h_3).symm.trans hf
        refine lv_iconst (v := 0) hx hb dX2_has_27 (by decide) ?_
        cases hf
        exact rt_z hx hb hr hlocks hK hP hS (Or.inl rfl) dX2_has_28
      · have hf := (if_neg h_3).symm.trans hf
        refine lv_iconst (v := 1) hx hb dX2_has_23 (by decide) ?_
        refine lv_goto (tgt := 28) hx hb dX2_has_24 (by decide) ?_
        cases hf
        exact rt_z hx hb hr hlocks hK hP hS (Or.inr rfl) dX2_has_28

def f_X2_isRock (v_t_columns : Int32) (v_t_rows : Int32) (v_t_ground : Nat → Int32) (x1 : Int32) : Option (Int32) :=
  (f_X2_has v_t_columns v_t_rows x1).bind (fun z2 => (if z2 = 0 then (some 0) else gd (ib x1 36) ((if (v_t_ground (Int32.toNatClampNeg x1)) = (-1) then (some 0) else (some 1)))))
theorem gv_X2_isRock {own : String} {idx : Nat} (h : Cond.methodLink own idx yX2_isRock ∈ lw_g) : GoodIn lw_g (wsV own idx RX2 yX2_isRock (Cond.code yX2_isRock cX2_isRock 2 (some .boolean) :: lw_g)) := gV h w_515 w_516 w_60 w_517
theorem hd_X2_isRock : yX2_isRock.cls = RX2 ∧ yX2_isRock.cls ≠ "java/lang/invoke/MethodHandle" ∧ yX2_isRock.cls ≠ "java/lang/invoke/VarHandle" ∧ (parseMethodDescriptor yX2_isRock.desc).map (fun d => d.parameters.length) = some 1 := by decide +kernel
set_option maxHeartbeats 4000000 in
set_option maxRecDepth 100000 in
theorem c_X2_isRock (l : Launch) (D : va_G) (cI cJ cZ : ClassId) (en : EnT) (q_t q_t_ground q_t_windows q_t_lawParts : Nat) (sz : Nat) (v_t_columns : Int32) (v_t_rows : Int32) (v_t_fade : Int32) (v_t_laws : Int32) (v_t_nightHours : Int32) (v_t_nightTimes : Int32) (v_t_ground : Nat → Int32) (v_t_windows : Nat → Int32) (v_t_lawParts : Nat → Int32) (x1 : Int32) {z : Int32} (hf : f_X2_isRock v_t_columns v_t_rows v_t_ground x1 = some z) : Met l yX2_isRock (Cond.code yX2_isRock cX2_isRock 2 (some .boolean) :: lw_g) ({ frames := 1, cells := 0, slots := 0, locals := 21 } : Room) (PC D cI cJ cZ en ([.ref q_t, .int x1] : List Value) [(q_t, .inr (2, [.int v_t_columns, .int v_t_rows, .int v_t_fade, .int v_t_laws, .int v_t_nightHours, .int v_t_nightTimes, .ref q_t_ground, .ref q_t_windows, .ref q_t_lawParts])), (q_t_ground, .inl (cI, 36, .inl v_t_ground)), (q_t_windows, .inl (cI, 6, .inl v_t_windows)), (q_t_lawParts, .inl (cI, 18, .inl v_t_lawParts))] sz) (QI D cI cJ cZ [(q_t, .inr (2, [.int v_t_columns, .int v_t_rows, .int v_t_fade, .int v_t_laws, .int v_t_nightHours, .int v_t_nightTimes, .ref q_t_ground, .ref q_t_windows, .ref q_t_lawParts])), (q_t_ground, .inl (cI, 36, .inl v_t_ground)), (q_t_windows, .inl (cI, 6, .inl v_t_windows)), (q_t_lawParts, .inl (cI, 18, .inl v_t_lawParts))] z (va_A [(q_t, .inr (2, [.int v_t_columns, .int v_t_rows, .int v_t_fade, .int v_t_laws, .int v_t_nightHours, .int v_t_nightTimes, .ref q_t_ground, .ref q_t_windows, .ref q_t_lawParts])), (q_t_ground, .inl (cI, 36, .inl v_t_ground)), (q_t_windows, .inl (cI, 6, .inl v_t_windows)), (q_t_lawParts, .inl (cI, 18, .inl v_t_lawParts))] sz)) 0 0 (va_A [(q_t, .inr (2, [.int v_t_columns, .int v_t_rows, .int v_t_fade, .int v_t_laws, .int v_t_nightHours, .int v_t_nightTimes, .ref q_t_ground, .ref q_t_windows, .ref q_t_lawParts])), (q_t_ground, .inl (cI, 36, .inl v_t_ground)), (q_t_windows, .inl (cI, 6, .inl v_t_windows)), (q_t_lawParts, .inl (cI, 18, .inl v_t_lawParts))] sz) := by
  refine mk_met (Qc := fun A => (QI D cI cJ cZ [(q_t, .inr (2, [.int v_t_columns, .int v_t_rows, .int v_t_fade, .int v_t_laws, .int v_t_nightHours, .int v_t_nightTimes, .ref q_t_ground, .ref q_t_windows, .ref q_t_lawParts])), (q_t_ground, .inl (cI, 36, .inl v_t_ground)), (q_t_windows, .inl (cI, 6, .inl v_t_windows)), (q_t_lawParts, .inl (cI, 18, .inl v_t_lawParts))] z A)) RX2 (by decide) rfl (Nat.le_of_ble_eq_true rfl) ?_
  intro p e s m below meth c ls A hx hb hr hml hown hts hlocks hA hK hE hl hD H locs hP hS
  have hl : lv_has ls 2 [(0, .ref q_t), (1, .int x1)] := hl
  unfold f_X2_isRock at hf
  refine lv_aload_n hx hb dX2_isRock_0 rfl (lv_at hl 0 rfl) ?_
  refine lv_iload_n hx hb dX2_isRock_1 rfl (lv_at hl 1 rfl) ?_
  obtain ⟨z2_1, hz2_1, hf⟩ := bd_some hf
  refine cVi (rest := []) ⟨hx, hb, hml, hown, hts⟩ hE hK hP hD hS hA (c_X2_has l D cI cJ cZ en q_t q_t_ground q_t_windows q_t_lawParts H.size v_t_columns v_t_rows v_t_fade v_t_laws v_t_nightHours v_t_nightTimes v_t_ground v_t_windows v_t_lawParts x1 hz2_1) (gv_X2_has w_464) hd_X2_has ⟨rfl, rfl⟩ ⟨by decide, by decide⟩ [0, 1, 2, 3] rfl rfl rfl 2 rfl rfl 0 rfl  hl rfl (Nat.le_of_ble_eq_true rfl) ⟨Nat.zero_le _, Nat.zero_le _⟩ dX2_isRock_2 (fun H locs hP hD hS => ?_)
  have hP : va_P D vwCl [(q_t, .inr (2, [.int v_t_columns, .int v_t_rows, .int v_t_fade, .int v_t_laws, .int v_t_nightHours, .int v_t_nightTimes, .ref q_t_ground, .ref q_t_windows, .ref q_t_lawParts])), (q_t_ground, .inl (cI, 36, .inl v_t_ground)), (q_t_windows, .inl (cI, 6, .inl v_t_windows)), (q_t_lawParts, .inl (cI, 18, .inl v_t_lawParts))] H := hP
  have hD : va_D A [(q_t, .inr (2, [.int v_t_columns, .int v_t_rows, .int v_t_fade, .int v_t_laws, .int v_t_nightHours, .int v_t_nightTimes, .ref q_t_ground, .ref q_t_windows, .ref q_t_lawParts])), (q_t_ground, .inl (cI, 36, .inl v_t_ground)), (q_t_windows, .inl (cI, 6, .inl v_t_windows)), (q_t_lawParts, .inl (cI, 18, .inl v_t_lawParts))] := hD
  refine lv_if_eq (tgt := 22) hx hb dX2_isRock_5 (by decide) (fun h_2 => ?_) (fun h_2 => ?_)
  · have hf := (if_pos h_2).symm.trans hf
    refine lv_iconst (v := 0) hx hb dX2_isRock_22 (by decide) ?_
    cases hf
    exact rt_z hx hb hr hlocks hK hP hS (Or.inl rfl) dX2_isRock_23
  · have hf := (if_neg h_2).symm.trans hf
    refine lv_aload_n hx hb dX2_isRock_8 rfl (lv_at hl 0 rfl) ?_
    refine va_get (D := D) (ci := 2) (v := .ref q_t_ground) (C := RX2) (T := TX2) (N := 9) hx hb hts inX2 hown hK hP 0 rfl rfl 6 (by decide) (hts _ w_150) (fun _ h9 => h9) rfl dX2_isRock_9 ?_
    refine lv_iload_n hx hb dX2_isRock_12 rfl (lv_at hl 1 rfl) ?_
    obtain ⟨hin, hf⟩ := gd_some hf
    refine va_iald hx hb hK hP 1 0 rfl rfl hin dX2_isRock_13 ?_
    refine lv_iconst (v := (-1)) hx hb dX2_isRock_14 (by decide) ?_
    refine lv_icmp_eq (tgt := 22) hx hb dX2_isRock_15 (by decide) (fun h_3 => ?_) (fun h_3 => ?_)
    · have hf := (if_pos h_3).symm.trans hf
      refine lv_iconst (v := 0) hx hb dX2_isRock_22 (by decide) ?_
      cases hf
      exact rt_z hx hb hr hlocks hK hP hS (Or.inl rfl) dX2_isRock_23
    · have hf := (if_neg h_3).symm.trans hf
      refine lv_iconst (v := 1) hx hb dX2_isRock_18 (by decide) ?_
      refine lv_goto (tgt := 23) hx hb dX2_isRock_19 (by decide) ?_
      cases hf
      exact rt_z hx hb hr hlocks hK hP hS (Or.inr rfl) dX2_isRock_23

def f_X2_isFloor (v_t_columns : Int32) (v_t_rows : Int32) (v_t_ground : Nat → Int32) (x1 : Int32) : Option (Int32) :=
  (f_X2_has v_t_columns v_t_rows x1).bind (fun z2 => (if z2 = 0 then (some 0) else gd (ib x1 36) ((if (v_t_ground (Int32.toNatClampNeg x1)) = (-1) then (some 1) else (some 0)))))
theorem gv_X2_isFloor {own : String} {idx : Nat} (h : Cond.methodLink own idx yX2_isFloor ∈ lw_g) : GoodIn lw_g (wsV own idx RX2 yX2_isFloor (Cond.code yX2_isFloor cX2_isFloor 2 (some .boolean) :: lw_g)) := gV h w_461 w_462 w_60 w_463
theorem hd_X2_isFloor : yX2_isFloor.cls = RX2 ∧ yX2_isFloor.cls ≠ "java/lang/invoke/MethodHandle" ∧ yX2_isFloor.cls ≠ "java/lang/invoke/VarHandle" ∧ (parseMethodDescriptor yX2_isFloor.desc).map (fun d => d.parameters.length) = some 1 := by decide +kernel
set_option maxHeartbeats 4000000 in
set_option maxRecDepth 100000 in
theorem c_X2_isFloor (l : Launch) (D : va_G) (cI cJ cZ : ClassId) (en : EnT) (q_t q_t_ground q_t_windows q_t_lawParts : Nat) (sz : Nat) (v_t_columns : Int32) (v_t_rows : Int32) (v_t_fade : Int32) (v_t_laws : Int32) (v_t_nightHours : Int32) (v_t_nightTimes : Int32) (v_t_ground : Nat → Int32) (v_t_windows : Nat → Int32) (v_t_lawParts : Nat → Int32) (x1 : Int32) {z : Int32} (hf : f_X2_isFloor v_t_columns v_t_rows v_t_ground x1 = some z) : Met l yX2_isFloor (Cond.code yX2_isFloor cX2_isFloor 2 (some .boolean) :: lw_g) ({ frames := 1, cells := 0, slots := 0, locals := 21 } : Room) (PC D cI cJ cZ en ([.ref q_t, .int x1] : List Value) [(q_t, .inr (2, [.int v_t_columns, .int v_t_rows, .int v_t_fade, .int v_t_laws, .int v_t_nightHours, .int v_t_nightTimes, .ref q_t_ground, .ref q_t_windows, .ref q_t_lawParts])), (q_t_ground, .inl (cI, 36, .inl v_t_ground)), (q_t_windows, .inl (cI, 6, .inl v_t_windows)), (q_t_lawParts, .inl (cI, 18, .inl v_t_lawParts))] sz) (QI D cI cJ cZ [(q_t, .inr (2, [.int v_t_columns, .int v_t_rows, .int v_t_fade, .int v_t_laws, .int v_t_nightHours, .int v_t_nightTimes, .ref q_t_ground, .ref q_t_windows, .ref q_t_lawParts])), (q_t_ground, .inl (cI, 36, .inl v_t_ground)), (q_t_windows, .inl (cI, 6, .inl v_t_windows)), (q_t_lawParts, .inl (cI, 18, .inl v_t_lawParts))] z (va_A [(q_t, .inr (2, [.int v_t_columns, .int v_t_rows, .int v_t_fade, .int v_t_laws, .int v_t_nightHours, .int v_t_nightTimes, .ref q_t_ground, .ref q_t_windows, .ref q_t_lawParts])), (q_t_ground, .inl (cI, 36, .inl v_t_ground)), (q_t_windows, .inl (cI, 6, .inl v_t_windows)), (q_t_lawParts, .inl (cI, 18, .inl v_t_lawParts))] sz)) 0 0 (va_A [(q_t, .inr (2, [.int v_t_columns, .int v_t_rows, .int v_t_fade, .int v_t_laws, .int v_t_nightHours, .int v_t_nightTimes, .ref q_t_ground, .ref q_t_windows, .ref q_t_lawParts])), (q_t_ground, .inl (cI, 36, .inl v_t_ground)), (q_t_windows, .inl (cI, 6, .inl v_t_windows)), (q_t_lawParts, .inl (cI, 18, .inl v_t_lawParts))] sz) := by
  refine mk_met (Qc := fun A => (QI D cI cJ cZ [(q_t, .inr (2, [.int v_t_columns, .int v_t_rows, .int v_t_fade, .int v_t_laws, .int v_t_nightHours, .int v_t_nightTimes, .ref q_t_ground, .ref q_t_windows, .ref q_t_lawParts])), (q_t_ground, .inl (cI, 36, .inl v_t_ground)), (q_t_windows, .inl (cI, 6, .inl v_t_windows)), (q_t_lawParts, .inl (cI, 18, .inl v_t_lawParts))] z A)) RX2 (by decide) rfl (Nat.le_of_ble_eq_true rfl) ?_
  intro p e s m below meth c ls A hx hb hr hml hown hts hlocks hA hK hE hl hD H locs hP hS
  have hl : lv_has ls 2 [(0, .ref q_t), (1, .int x1)] := hl
  unfold f_X2_isFloor at hf
  refine lv_aload_n hx hb dX2_isFloor_0 rfl (lv_at hl 0 rfl) ?_
  refine lv_iload_n hx hb dX2_isFloor_1 rfl (lv_at hl 1 rfl) ?_
  obtain ⟨z2_1, hz2_1, hf⟩ := bd_some hf
  refine cVi (rest := []) ⟨hx, hb, hml, hown, hts⟩ hE hK hP hD hS hA (c_X2_has l D cI cJ cZ en q_t q_t_ground q_t_windows q_t_lawParts H.size v_t_columns v_t_rows v_t_fade v_t_laws v_t_nightHours v_t_nightTimes v_t_ground v_t_windows v_t_lawParts x1 hz2_1) (gv_X2_has w_464) hd_X2_has ⟨rfl, rfl⟩ ⟨by decide, by decide⟩ [0, 1, 2, 3] rfl rfl rfl 2 rfl rfl 0 rfl  hl rfl (Nat.le_of_ble_eq_true rfl) ⟨Nat.zero_le _, Nat.zero_le _⟩ dX2_isFloor_2 (fun H locs hP hD hS => ?_)
  have hP : va_P D vwCl [(q_t, .inr (2, [.int v_t_columns, .int v_t_rows, .int v_t_fade, .int v_t_laws, .int v_t_nightHours, .int v_t_nightTimes, .ref q_t_ground, .ref q_t_windows, .ref q_t_lawParts])), (q_t_ground, .inl (cI, 36, .inl v_t_ground)), (q_t_windows, .inl (cI, 6, .inl v_t_windows)), (q_t_lawParts, .inl (cI, 18, .inl v_t_lawParts))] H := hP
  have hD : va_D A [(q_t, .inr (2, [.int v_t_columns, .int v_t_rows, .int v_t_fade, .int v_t_laws, .int v_t_nightHours, .int v_t_nightTimes, .ref q_t_ground, .ref q_t_windows, .ref q_t_lawParts])), (q_t_ground, .inl (cI, 36, .inl v_t_ground)), (q_t_windows, .inl (cI, 6, .inl v_t_windows)), (q_t_lawParts, .inl (cI, 18, .inl v_t_lawParts))] := hD
  refine lv_if_eq (tgt := 22) hx hb dX2_isFloor_5 (by decide) (fun h_2 => ?_) (fun h_2 => ?_)
  · have hf := (if_pos h_2).symm.trans hf
    refine lv_iconst (v := 0) hx hb dX2_isFloor_22 (by decide) ?_
    cases hf
    exact rt_z hx hb hr hlocks hK hP hS (Or.inl rfl) dX2_isFloor_23
  · have hf := (if_neg h_2).symm.trans hf
    refine lv_aload_n hx hb dX2_isFloor_8 rfl (lv_at hl 0 rfl) ?_
    refine va_get (D := D) (ci := 2) (v := .ref q_t_ground) (C := RX2) (T := TX2) (N := 9) hx hb hts inX2 hown hK hP 0 rfl rfl 6 (by decide) (hts _ w_150) (fun _ h9 => h9) rfl dX2_isFloor_9 ?_
    refine lv_iload_n hx hb dX2_isFloor_12 rfl (lv_at hl 1 rfl) ?_
    obtain ⟨hin, hf⟩ := gd_some hf
    refine va_iald hx hb hK hP 1 0 rfl rfl hin dX2_isFloor_13 ?_
    refine lv_iconst (v := (-1)) hx hb dX2_isFloor_14 (by decide) ?_
    refine lv_icmp_ne (tgt := 22) hx hb dX2_isFloor_15 (by decide) (fun h_3 => ?_) (fun h_3 => ?_)
    · have hf := (if_neg h_3).symm.trans hf
      refine lv_iconst (v := 0) hx hb dX2_isFloor_22 (by decide) ?_
      cases hf
      exact rt_z hx hb hr hlocks hK hP hS (Or.inl rfl) dX2_isFloor_23
    · have hf := (if_pos h_3).symm.trans hf
      refine lv_iconst (v := 1) hx hb dX2_isFloor_18 (by decide) ?_
      refine lv_goto (tgt := 23) hx hb dX2_isFloor_19 (by decide) ?_
      cases hf
      exact rt_z hx hb hr hlocks hK hP hS (Or.inr rfl) dX2_isFloor_23

def f_X2_personsAt_J36 (rc14 : (Int32) → (Int32) → Option (Int32)) (x2 : Int32) (x3 : Int32) : Option (Int32) :=
  (rc14 x2 (x3 + 1))
def f_X2_personsAt_L14 (v_t_windows : Nat → Int32) (x1 : Int32) : Nat → (Int32) → (Int32) → Option (Int32)
  | 0, _, _ => none
  | n + 1, x2, x3 => (if 6 ≤ x3 then (some x2) else gd (ib x3 6) ((if (v_t_windows (Int32.toNatClampNeg x3)) = x1 then (f_X2_personsAt_J36 (f_X2_personsAt_L14 v_t_windows x1 n) (x2 ||| (1 <<< (x3 &&& 31))) x3) else (f_X2_personsAt_J36 (f_X2_personsAt_L14 v_t_windows x1 n) x2 x3))))
def f_X2_personsAt (v_t_columns : Int32) (v_t_rows : Int32) (v_t_windows : Nat → Int32) (x1 : Int32) : Option (Int32) :=
  (f_X2_has v_t_columns v_t_rows x1).bind (fun z2 => (if z2 = 0 then (some 0) else (f_X2_personsAt_L14 v_t_windows x1 FU 0 0)))
theorem gv_X2_personsAt {own : String} {idx : Nat} (h : Cond.methodLink own idx yX2_personsAt ∈ lw_g) : GoodIn lw_g (wsV own idx RX2 yX2_personsAt (Cond.code yX2_personsAt cX2_personsAt 4 (some .int) :: lw_g)) := gV h w_526 w_527 w_60 w_528
theorem hd_X2_personsAt : yX2_personsAt.cls = RX2 ∧ yX2_personsAt.cls ≠ "java/lang/invoke/MethodHandle" ∧ yX2_personsAt.cls ≠ "java/lang/invoke/VarHandle" ∧ (parseMethodDescriptor yX2_personsAt.desc).map (fun d => d.parameters.length) = some 1 := by decide +kernel
set_option maxHeartbeats 4000000 in
set_option maxRecDepth 100000 in
theorem c_X2_personsAt (l : Launch) (D : va_G) (cI cJ cZ : ClassId) (en : EnT) (q_t q_t_ground q_t_windows q_t_lawParts : Nat) (sz : Nat) (v_t_columns : Int32) (v_t_rows : Int32) (v_t_fade : Int32) (v_t_laws : Int32) (v_t_nightHours : Int32) (v_t_nightTimes : Int32) (v_t_ground : Nat → Int32) (v_t_windows : Nat → Int32) (v_t_lawParts : Nat → Int32) (x1 : Int32) {z : Int32} (hf : f_X2_personsAt v_t_columns v_t_rows v_t_windows x1 = some z) : Met l yX2_personsAt (Cond.code yX2_personsAt cX2_personsAt 4 (some .int) :: lw_g) ({ frames := 1, cells := 0, slots := 0, locals := 21 } : Room) (PC D cI cJ cZ en ([.ref q_t, .int x1] : List Value) [(q_t, .inr (2, [.int v_t_columns, .int v_t_rows, .int v_t_fade, .int v_t_laws, .int v_t_nightHours, .int v_t_nightTimes, .ref q_t_ground, .ref q_t_windows, .ref q_t_lawParts])), (q_t_ground, .inl (cI, 36, .inl v_t_ground)), (q_t_windows, .inl (cI, 6, .inl v_t_windows)), (q_t_lawParts, .inl (cI, 18, .inl v_t_lawParts))] sz) (QI D cI cJ cZ [(q_t, .inr (2, [.int v_t_columns, .int v_t_rows, .int v_t_fade, .int v_t_laws, .int v_t_nightHours, .int v_t_nightTimes, .ref q_t_ground, .ref q_t_windows, .ref q_t_lawParts])), (q_t_ground, .inl (cI, 36, .inl v_t_ground)), (q_t_windows, .inl (cI, 6, .inl v_t_windows)), (q_t_lawParts, .inl (cI, 18, .inl v_t_lawParts))] z (va_A [(q_t, .inr (2, [.int v_t_columns, .int v_t_rows, .int v_t_fade, .int v_t_laws, .int v_t_nightHours, .int v_t_nightTimes, .ref q_t_ground, .ref q_t_windows, .ref q_t_lawParts])), (q_t_ground, .inl (cI, 36, .inl v_t_ground)), (q_t_windows, .inl (cI, 6, .inl v_t_windows)), (q_t_lawParts, .inl (cI, 18, .inl v_t_lawParts))] sz)) 0 0 (va_A [(q_t, .inr (2, [.int v_t_columns, .int v_t_rows, .int v_t_fade, .int v_t_laws, .int v_t_nightHours, .int v_t_nightTimes, .ref q_t_ground, .ref q_t_windows, .ref q_t_lawParts])), (q_t_ground, .inl (cI, 36, .inl v_t_ground)), (q_t_windows, .inl (cI, 6, .inl v_t_windows)), (q_t_lawParts, .inl (cI, 18, .inl v_t_lawParts))] sz) := by
  refine mk_met (Qc := fun A => (QI D cI cJ cZ [(q_t, .inr (2, [.int v_t_columns, .int v_t_rows, .int v_t_fade, .int v_t_laws, .int v_t_nightHours, .int v_t_nightTimes, .ref q_t_ground, .ref q_t_windows, .ref q_t_lawParts])), (q_t_ground, .inl (cI, 36, .inl v_t_ground)), (q_t_windows, .inl (cI, 6, .inl v_t_windows)), (q_t_lawParts, .inl (cI, 18, .inl v_t_lawParts))] z A)) RX2 (by decide) rfl (Nat.le_of_ble_eq_true rfl) ?_
  intro p e s m below meth c ls A hx hb hr hml hown hts hlocks hA hK hE hl hD H locs hP hS
  have hl : lv_has ls 4 [(0, .ref q_t), (1, .int x1)] := hl
  unfold f_X2_personsAt at hf
  refine lv_aload_n hx hb dX2_personsAt_0 rfl (lv_at hl 0 rfl) ?_
  refine lv_iload_n hx hb dX2_personsAt_1 rfl (lv_at hl 1 rfl) ?_
  obtain ⟨z2_1, hz2_1, hf⟩ := bd_some hf
  refine cVi (rest := []) ⟨hx, hb, hml, hown, hts⟩ hE hK hP hD hS hA (c_X2_has l D cI cJ cZ en q_t q_t_ground q_t_windows q_t_lawParts H.size v_t_columns v_t_rows v_t_fade v_t_laws v_t_nightHours v_t_nightTimes v_t_ground v_t_windows v_t_lawParts x1 hz2_1) (gv_X2_has w_464) hd_X2_has ⟨rfl, rfl⟩ ⟨by decide, by decide⟩ [0, 1, 2, 3] rfl rfl rfl 2 rfl rfl 0 rfl  hl rfl (Nat.le_of_ble_eq_true rfl) ⟨Nat.zero_le _, Nat.zero_le _⟩ dX2_personsAt_2 (fun H locs hP hD hS => ?_)
  have hP : va_P D vwCl [(q_t, .inr (2, [.int v_t_columns, .int v_t_rows, .int v_t_fade, .int v_t_laws, .int v_t_nightHours, .int v_t_nightTimes, .ref q_t_ground, .ref q_t_windows, .ref q_t_lawParts])), (q_t_ground, .inl (cI, 36, .inl v_t_ground)), (q_t_windows, .inl (cI, 6, .inl v_t_windows)), (q_t_lawParts, .inl (cI, 18, .inl v_t_lawParts))] H := hP
  have hD : va_D A [(q_t, .inr (2, [.int v_t_columns, .int v_t_rows, .int v_t_fade, .int v_t_laws, .int v_t_nightHours, .int v_t_nightTimes, .ref q_t_ground, .ref q_t_windows, .ref q_t_lawParts])), (q_t_ground, .inl (cI, 36, .inl v_t_ground)), (q_t_windows, .inl (cI, 6, .inl v_t_windows)), (q_t_lawParts, .inl (cI, 18, .inl v_t_lawParts))] := hD
  refine lv_if_ne (tgt := 10) hx hb dX2_personsAt_5 (by decide) (fun h_2 => ?_) (fun h_2 => ?_)
  · have hf := (if_neg h_2).symm.trans hf
    refine lv_iconst (v := 0) hx hb dX2_personsAt_10 (by decide) ?_
    refine lv_istore_n (lv' := [(2, .int 0), (0, .ref q_t), (1, .int x1)]) hx hb dX2_personsAt_11 rfl hl (by decide) rfl (fun ls hl => ?_)
    refine lv_iconst (v := 0) hx hb dX2_personsAt_12 (by decide) ?_
    refine lv_istore_n (lv' := [(3, .int 0), (2, .int 0), (0, .ref q_t), (1, .int x1)]) hx hb dX2_personsAt_13 rfl hl (by decide) rfl (fun ls hl => ?_)
    have L14_5 : ∀ (n : Nat) (x2_3 : Int32) (x3_4 : Int32), f_X2_personsAt_L14 v_t_windows x1 n x2_3 x3_4 = some z → ∀ (H : Heap) (locs : List Loc) (ls : Array Slot), va_P D vwCl [(q_t, .inr (2, [.int v_t_columns, .int v_t_rows, .int v_t_fade, .int v_t_laws, .int v_t_nightHours, .int v_t_nightTimes, .ref q_t_ground, .ref q_t_windows, .ref q_t_lawParts])), (q_t_ground, .inl (cI, 36, .inl v_t_ground)), (q_t_windows, .inl (cI, 6, .inl v_t_windows)), (q_t_lawParts, .inl (cI, 18, .inl v_t_lawParts))] H → va_D A [(q_t, .inr (2, [.int v_t_columns, .int v_t_rows, .int v_t_fade, .int v_t_laws, .int v_t_nightHours, .int v_t_nightTimes, .ref q_t_ground, .ref q_t_windows, .ref q_t_lawParts])), (q_t_ground, .inl (cI, 36, .inl v_t_ground)), (q_t_windows, .inl (cI, 6, .inl v_t_windows)), (q_t_lawParts, .inl (cI, 18, .inl v_t_lawParts))] → va_S A s.heap H locs → lv_has ls 4 [(0, .ref q_t), (1, .int x1), (2, .int x2_3), (3, .int x3_4)] → W p l e ({ frames := 1, cells := 0, slots := 0, locals := 21 } : Room) s m ([.ref q_t, .int x1] : List Value).toArray below meth c H locs 0 0 (MQ below (QI D cI cJ cZ [(q_t, .inr (2, [.int v_t_columns, .int v_t_rows, .int v_t_fade, .int v_t_laws, .int v_t_nightHours, .int v_t_nightTimes, .ref q_t_ground, .ref q_t_windows, .ref q_t_lawParts])), (q_t_ground, .inl (cI, 36, .inl v_t_ground)), (q_t_windows, .inl (cI, 6, .inl v_t_windows)), (q_t_lawParts, .inl (cI, 18, .inl v_t_lawParts))] z A) ([.ref q_t, .int x1] : List Value).toArray s 0 0 A) (F0 m 14 ls []) := by
      intro n
      induction n with
      | zero =>
        intro x2_3 x3_4 hf
        cases hf
      | succ n ih_6 =>
        intro x2_3 x3_4 hf H locs ls hP hD hS hl
        rw [f_X2_personsAt_L14] at hf
        refine lv_iload_n hx hb dX2_personsAt_14 rfl (lv_at hl 3 rfl) ?_
        refine lv_bipush (v := 6) hx hb dX2_personsAt_15 (by decide) ?_
        refine lv_icmp_ge (tgt := 42) hx hb dX2_personsAt_17 (by decide) (fun h_7 => ?_) (fun h_7 => ?_)
        · have hf := (if_pos h_7).symm.trans hf
          refine lv_iload_n hx hb dX2_personsAt_42 rfl (lv_at hl 2 rfl) ?_
          cases hf
          exact rt_i hx hb hr hlocks hK hP hS dX2_personsAt_43
        · have hf := (if_neg h_7).symm.trans hf
          refine lv_aload_n hx hb dX2_personsAt_20 rfl (lv_at hl 0 rfl) ?_
          refine va_get (D := D) (ci := 2) (v := .ref q_t_windows) (C := RX2) (T := TX2) (N := 9) hx hb hts inX2 hown hK hP 0 rfl rfl 7 (by decide) (hts _ w_151) (fun _ h9 => h9) rfl dX2_personsAt_21 ?_
          refine lv_iload_n hx hb dX2_personsAt_24 rfl (lv_at hl 3 rfl) ?_
          obtain ⟨hin, hf⟩ := gd_some hf
          refine va_iald hx hb hK hP 2 0 rfl rfl hin dX2_personsAt_25 ?_
          refine lv_iload_n hx hb dX2_personsAt_26 rfl (lv_at hl 1 rfl) ?_
          have J36_9 : ∀ (x2_8 : Int32), f_X2_personsAt_J36 (f_X2_personsAt_L14 v_t_windows x1 n) x2_8 x3_4 = some z → ∀ (H : Heap) (locs : List Loc) (ls : Array Slot), va_P D vwCl [(q_t, .inr (2, [.int v_t_columns, .int v_t_rows, .int v_t_fade, .int v_t_laws, .int v_t_nightHours, .int v_t_nightTimes, .ref q_t_ground, .ref q_t_windows, .ref q_t_lawParts])), (q_t_ground, .inl (cI, 36, .inl v_t_ground)), (q_t_windows, .inl (cI, 6, .inl v_t_windows)), (q_t_lawParts, .inl (cI, 18, .inl v_t_lawParts))] H → va_D A [(q_t, .inr (2, [.int v_t_columns, .int v_t_rows, .int v_t_fade, .int v_t_laws, .int v_t_nightHours, .int v_t_nightTimes, .ref q_t_ground, .ref q_t_windows, .ref q_t_lawParts])), (q_t_ground, .inl (cI, 36, .inl v_t_ground)), (q_t_windows, .inl (cI, 6, .inl v_t_windows)), (q_t_lawParts, .inl (cI, 18, .inl v_t_lawParts))] → va_S A s.heap H locs → lv_has ls 4 [(0, .ref q_t), (1, .int x1), (2, .int x2_8), (3, .int x3_4)] → W p l e ({ frames := 1, cells := 0, slots := 0, locals := 21 } : Room) s m ([.ref q_t, .int x1] : List Value).toArray below meth c H locs 0 0 (MQ below (QI D cI cJ cZ [(q_t, .inr (2, [.int v_t_columns, .int v_t_rows, .int v_t_fade, .int v_t_laws, .int v_t_nightHours, .int v_t_nightTimes, .ref q_t_ground, .ref q_t_windows, .ref q_t_lawParts])), (q_t_ground, .inl (cI, 36, .inl v_t_ground)), (q_t_windows, .inl (cI, 6, .inl v_t_windows)), (q_t_lawParts, .inl (cI, 18, .inl v_t_lawParts))] z A) ([.ref q_t, .int x1] : List Value).toArray s 0 0 A) (F0 m 36 ls []) := by
            intro x2_8 hf H locs ls hP hD hS hl
            unfold f_X2_personsAt_J36 at hf
            refine lv_iinc (v := (x3_4 + 1)) (lv' := [(3, .int (x3_4 + 1)), (0, .ref q_t), (1, .int x1), (2, .int x2_8)]) hx hb dX2_personsAt_36 hl (k := 3) rfl rfl (by decide) rfl (fun ls hl => ?_)
            refine lv_goto (tgt := 14) hx hb dX2_personsAt_39 (by decide) ?_
            exact ih_6 x2_8 (x3_4 + 1) hf _ _ _ hP hD hS (lv_sub hl [1, 2, 3, 0] rfl)
          refine lv_icmp_ne (tgt := 36) hx hb dX2_personsAt_27 (by decide) (fun h_10 => ?_) (fun h_10 => ?_)
          · have hf := (if_neg h_10).symm.trans hf
            exact J36_9 x2_3 hf _ _ _ hP hD hS (lv_sub hl [0, 1, 2, 3] rfl)
          · have hf := (if_pos h_10).symm.trans hf
            refine lv_iload_n hx hb dX2_personsAt_30 rfl (lv_at hl 2 rfl) ?_
            refine lv_iconst (v := 1) hx hb dX2_personsAt_31 (by decide) ?_
            refine lv_iload_n hx hb dX2_personsAt_32 rfl (lv_at hl 3 rfl) ?_
            refine lv_ishl hx hb dX2_personsAt_33 ?_
            refine lv_ior hx hb dX2_personsAt_34 ?_
            refine lv_istore_n (lv' := [(2, .int (x2_3 ||| (1 <<< (x3_4 &&& 31)))), (0, .ref q_t), (1, .int x1), (3, .int x3_4)]) hx hb dX2_personsAt_35 rfl hl (by decide) rfl (fun ls hl => ?_)
            exact J36_9 (x2_3 ||| (1 <<< (x3_4 &&& 31))) hf _ _ _ hP hD hS (lv_sub hl [1, 2, 0, 3] rfl)
    exact L14_5 FU 0 0 hf _ _ _ hP hD hS (lv_sub hl [2, 3, 1, 0] rfl)
  · have hf := (if_pos h_2).symm.trans hf
    refine lv_iconst (v := 0) hx hb dX2_personsAt_8 (by decide) ?_
    cases hf
    exact rt_i hx hb hr hlocks hK hP hS dX2_personsAt_9

def f_X9_isPerson (x0 : Int32) : Option (Int32) :=
  (if x0 < 0 then (some 0) else (if 6 ≤ x0 then (some 0) else (some 1)))
theorem gs_X9_isPerson {own : String} {idx : Nat} (h : Cond.methodLink own idx yX9_isPerson ∈ lw_g) : GoodIn lw_g (va_wsS own idx yX9_isPerson (Cond.code yX9_isPerson cX9_isPerson 1 (some .boolean) :: lw_g)) := gS h w_489 w_57 w_490
theorem hd_X9_isPerson : yX9_isPerson.cls ≠ "java/lang/invoke/MethodHandle" ∧ yX9_isPerson.cls ≠ "java/lang/invoke/VarHandle" ∧ (parseMethodDescriptor yX9_isPerson.desc).map (fun d => d.parameters.length) = some 1 := by decide +kernel
set_option maxHeartbeats 4000000 in
set_option maxRecDepth 100000 in
theorem c_X9_isPerson (l : Launch) (D : va_G) (cI cJ cZ : ClassId) (en : EnT) (sz : Nat) (x0 : Int32) {z : Int32} (hf : f_X9_isPerson x0 = some z) : Met l yX9_isPerson (Cond.code yX9_isPerson cX9_isPerson 1 (some .boolean) :: lw_g) ({ frames := 0, cells := 0, slots := 0, locals := 0 } : Room) (PC D cI cJ cZ en ([.int x0] : List Value) [] sz) (QI D cI cJ cZ [] z (va_A [] sz)) 0 0 (va_A [] sz) := by
  refine mk_met (Qc := fun A => (QI D cI cJ cZ [] z A)) RX9 (by decide) rfl (Nat.le_of_ble_eq_true rfl) ?_
  intro p e s m below meth c ls A hx hb hr hml hown hts hlocks hA hK hE hl hD H locs hP hS
  have hl : lv_has ls 1 [(0, .int x0)] := hl
  unfold f_X9_isPerson at hf
  refine lv_iload_n hx hb dX9_isPerson_0 rfl (lv_at hl 0 rfl) ?_
  refine lv_if_lt (tgt := 14) hx hb dX9_isPerson_1 (by decide) (fun h_1 => ?_) (fun h_1 => ?_)
  · have hf := (if_pos h_1).symm.trans hf
    refine lv_iconst (v := 0) hx hb dX9_isPerson_14 (by decide) ?_
    cases hf
    exact rt_z hx hb hr hlocks hK hP hS (Or.inl rfl) dX9_isPerson_15
  · have hf := (if_neg h_1).symm.trans hf
    refine lv_iload_n hx hb dX9_isPerson_4 rfl (lv_at hl 0 rfl) ?_
    refine lv_bipush (v := 6) hx hb dX9_isPerson_5 (by decide) ?_
    refine lv_icmp_ge (tgt := 14) hx hb dX9_isPerson_7 (by decide) (fun h_2 => ?_) (fun h_2 => ?_)
    · have hf := (if_pos h_2).symm.trans hf
      refine lv_iconst (v := 0) hx hb dX9_isPerson_14 (by decide) ?_
      cases hf
      exact rt_z hx hb hr hlocks hK hP hS (Or.inl rfl) dX9_isPerson_15
    · have hf := (if_neg h_2).symm.trans hf
      refine lv_iconst (v := 1) hx hb dX9_isPerson_10 (by decide) ?_
      refine lv_goto (tgt := 15) hx hb dX9_isPerson_11 (by decide) ?_
      cases hf
      exact rt_z hx hb hr hlocks hK hP hS (Or.inr rfl) dX9_isPerson_15

def f_X2_softOf (v_t_columns : Int32) (v_t_rows : Int32) (v_t_ground : Nat → Int32) (x1 : Int32) : Option (Int32) :=
  (f_X2_has v_t_columns v_t_rows x1).bind (fun z2 => (if z2 = 0 then (some 0) else gd (ib x1 36) ((some (if 0 < (v_t_ground (Int32.toNatClampNeg x1)) then (v_t_ground (Int32.toNatClampNeg x1)) else 0)))))
theorem gv_X2_softOf {own : String} {idx : Nat} (h : Cond.methodLink own idx yX2_softOf ∈ lw_g) : GoodIn lw_g (wsV own idx RX2 yX2_softOf (Cond.code yX2_softOf cX2_softOf 2 (some .int) :: lw_g)) := gV h w_519 w_520 w_60 w_521
theorem hd_X2_softOf : yX2_softOf.cls = RX2 ∧ yX2_softOf.cls ≠ "java/lang/invoke/MethodHandle" ∧ yX2_softOf.cls ≠ "java/lang/invoke/VarHandle" ∧ (parseMethodDescriptor yX2_softOf.desc).map (fun d => d.parameters.length) = some 1 := by decide +kernel
set_option maxHeartbeats 4000000 in
set_option maxRecDepth 100000 in
theorem c_X2_softOf (l : Launch) (D : va_G) (cI cJ cZ : ClassId) (en : EnT) (q_t q_t_ground q_t_windows q_t_lawParts : Nat) (sz : Nat) (v_t_columns : Int32) (v_t_rows : Int32) (v_t_fade : Int32) (v_t_laws : Int32) (v_t_nightHours : Int32) (v_t_nightTimes : Int32) (v_t_ground : Nat → Int32) (v_t_windows : Nat → Int32) (v_t_lawParts : Nat → Int32) (x1 : Int32) {z : Int32} (hf : f_X2_softOf v_t_columns v_t_rows v_t_ground x1 = some z) : Met l yX2_softOf (Cond.code yX2_softOf cX2_softOf 2 (some .int) :: lw_g) ({ frames := 1, cells := 0, slots := 0, locals := 21 } : Room) (PC D cI cJ cZ en ([.ref q_t, .int x1] : List Value) [(q_t, .inr (2, [.int v_t_columns, .int v_t_rows, .int v_t_fade, .int v_t_laws, .int v_t_nightHours, .int v_t_nightTimes, .ref q_t_ground, .ref q_t_windows, .ref q_t_lawParts])), (q_t_ground, .inl (cI, 36, .inl v_t_ground)), (q_t_windows, .inl (cI, 6, .inl v_t_windows)), (q_t_lawParts, .inl (cI, 18, .inl v_t_lawParts))] sz) (QI D cI cJ cZ [(q_t, .inr (2, [.int v_t_columns, .int v_t_rows, .int v_t_fade, .int v_t_laws, .int v_t_nightHours, .int v_t_nightTimes, .ref q_t_ground, .ref q_t_windows, .ref q_t_lawParts])), (q_t_ground, .inl (cI, 36, .inl v_t_ground)), (q_t_windows, .inl (cI, 6, .inl v_t_windows)), (q_t_lawParts, .inl (cI, 18, .inl v_t_lawParts))] z (va_A [(q_t, .inr (2, [.int v_t_columns, .int v_t_rows, .int v_t_fade, .int v_t_laws, .int v_t_nightHours, .int v_t_nightTimes, .ref q_t_ground, .ref q_t_windows, .ref q_t_lawParts])), (q_t_ground, .inl (cI, 36, .inl v_t_ground)), (q_t_windows, .inl (cI, 6, .inl v_t_windows)), (q_t_lawParts, .inl (cI, 18, .inl v_t_lawParts))] sz)) 0 0 (va_A [(q_t, .inr (2, [.int v_t_columns, .int v_t_rows, .int v_t_fade, .int v_t_laws, .int v_t_nightHours, .int v_t_nightTimes, .ref q_t_ground, .ref q_t_windows, .ref q_t_lawParts])), (q_t_ground, .inl (cI, 36, .inl v_t_ground)), (q_t_windows, .inl (cI, 6, .inl v_t_windows)), (q_t_lawParts, .inl (cI, 18, .inl v_t_lawParts))] sz) := by
  refine mk_met (Qc := fun A => (QI D cI cJ cZ [(q_t, .inr (2, [.int v_t_columns, .int v_t_rows, .int v_t_fade, .int v_t_laws, .int v_t_nightHours, .int v_t_nightTimes, .ref q_t_ground, .ref q_t_windows, .ref q_t_lawParts])), (q_t_ground, .inl (cI, 36, .inl v_t_ground)), (q_t_windows, .inl (cI, 6, .inl v_t_windows)), (q_t_lawParts, .inl (cI, 18, .inl v_t_lawParts))] z A)) RX2 (by decide) rfl (Nat.le_of_ble_eq_true rfl) ?_
  intro p e s m below meth c ls A hx hb hr hml hown hts hlocks hA hK hE hl hD H locs hP hS
  have hl : lv_has ls 2 [(0, .ref q_t), (1, .int x1)] := hl
  unfold f_X2_softOf at hf
  refine lv_aload_n hx hb dX2_softOf_0 rfl (lv_at hl 0 rfl) ?_
  refine lv_iload_n hx hb dX2_softOf_1 rfl (lv_at hl 1 rfl) ?_
  obtain ⟨z2_1, hz2_1, hf⟩ := bd_some hf
  refine cVi (rest := []) ⟨hx, hb, hml, hown, hts⟩ hE hK hP hD hS hA (c_X2_has l D cI cJ cZ en q_t q_t_ground q_t_windows q_t_lawParts H.size v_t_columns v_t_rows v_t_fade v_t_laws v_t_nightHours v_t_nightTimes v_t_ground v_t_windows v_t_lawParts x1 hz2_1) (gv_X2_has w_464) hd_X2_has ⟨rfl, rfl⟩ ⟨by decide, by decide⟩ [0, 1, 2, 3] rfl rfl rfl 2 rfl rfl 0 rfl  hl rfl (Nat.le_of_ble_eq_true rfl) ⟨Nat.zero_le _, Nat.zero_le _⟩ dX2_softOf_2 (fun H locs hP hD hS => ?_)
  have hP : va_P D vwCl [(q_t, .inr (2, [.int v_t_columns, .int v_t_rows, .int v_t_fade, .int v_t_laws, .int v_t_nightHours, .int v_t_nightTimes, .ref q_t_ground, .ref q_t_windows, .ref q_t_lawParts])), (q_t_ground, .inl (cI, 36, .inl v_t_ground)), (q_t_windows, .inl (cI, 6, .inl v_t_windows)), (q_t_lawParts, .inl (cI, 18, .inl v_t_lawParts))] H := hP
  have hD : va_D A [(q_t, .inr (2, [.int v_t_columns, .int v_t_rows, .int v_t_fade, .int v_t_laws, .int v_t_nightHours, .int v_t_nightTimes, .ref q_t_ground, .ref q_t_windows, .ref q_t_lawParts])), (q_t_ground, .inl (cI, 36, .inl v_t_ground)), (q_t_windows, .inl (cI, 6, .inl v_t_windows)), (q_t_lawParts, .inl (cI, 18, .inl v_t_lawParts))] := hD
  refine lv_if_eq (tgt := 21) hx hb dX2_softOf_5 (by decide) (fun h_2 => ?_) (fun h_2 => ?_)
  · have hf := (if_pos h_2).symm.trans hf
    refine lv_iconst (v := 0) hx hb dX2_softOf_21 (by decide) ?_
    cases hf
    exact rt_i hx hb hr hlocks hK hP hS dX2_softOf_22
  · have hf := (if_neg h_2).symm.trans hf
    refine lv_iconst (v := 0) hx hb dX2_softOf_8 (by decide) ?_
    refine lv_aload_n hx hb dX2_softOf_9 rfl (lv_at hl 0 rfl) ?_
    refine va_get (D := D) (ci := 2) (v := .ref q_t_ground) (C := RX2) (T := TX2) (N := 9) hx hb hts inX2 hown hK hP 0 rfl rfl 6 (by decide) (hts _ w_150) (fun _ h9 => h9) rfl dX2_softOf_10 ?_
    refine lv_iload_n hx hb dX2_softOf_13 rfl (lv_at hl 1 rfl) ?_
    obtain ⟨hin, hf⟩ := gd_some hf
    refine va_iald hx hb hK hP 1 0 rfl rfl hin dX2_softOf_14 ?_
    refine va_mmax hx hb (hml.trans hl.1.symm) hown (hts _ w_522) (hts _ w_523) (hts _ w_73) (hts _ w_524) (by decide) (Nat.le_of_ble_eq_true rfl) (Nat.zero_le _) (Nat.zero_le _) dX2_softOf_15 ?_
    refine lv_goto (tgt := 22) hx hb dX2_softOf_18 (by decide) ?_
    cases hf
    exact rt_i hx hb hr hlocks hK hP hS dX2_softOf_22

def f_X2_windowOf (v_t_windows : Nat → Int32) (x1 : Int32) : Option (Int32) :=
  (f_X9_isPerson x1).bind (fun z1 => (if z1 = 0 then (some (-1)) else gd (ib x1 6) ((some (v_t_windows (Int32.toNatClampNeg x1))))))
theorem gv_X2_windowOf {own : String} {idx : Nat} (h : Cond.methodLink own idx yX2_windowOf ∈ lw_g) : GoodIn lw_g (wsV own idx RX2 yX2_windowOf (Cond.code yX2_windowOf cX2_windowOf 2 (some .int) :: lw_g)) := gV h w_535 w_536 w_60 w_537
theorem hd_X2_windowOf : yX2_windowOf.cls = RX2 ∧ yX2_windowOf.cls ≠ "java/lang/invoke/MethodHandle" ∧ yX2_windowOf.cls ≠ "java/lang/invoke/VarHandle" ∧ (parseMethodDescriptor yX2_windowOf.desc).map (fun d => d.parameters.length) = some 1 := by decide +kernel
set_option maxHeartbeats 4000000 in
set_option maxRecDepth 100000 in
theorem c_X2_windowOf (l : Launch) (D : va_G) (cI cJ cZ : ClassId) (en : EnT) (q_t q_t_ground q_t_windows q_t_lawParts : Nat) (sz : Nat) (v_t_columns : Int32) (v_t_rows : Int32) (v_t_fade : Int32) (v_t_laws : Int32) (v_t_nightHours : Int32) (v_t_nightTimes : Int32) (v_t_ground : Nat → Int32) (v_t_windows : Nat → Int32) (v_t_lawParts : Nat → Int32) (x1 : Int32) {z : Int32} (hf : f_X2_windowOf v_t_windows x1 = some z) : Met l yX2_windowOf (Cond.code yX2_windowOf cX2_windowOf 2 (some .int) :: lw_g) ({ frames := 1, cells := 0, slots := 0, locals := 20 } : Room) (PC D cI cJ cZ en ([.ref q_t, .int x1] : List Value) [(q_t, .inr (2, [.int v_t_columns, .int v_t_rows, .int v_t_fade, .int v_t_laws, .int v_t_nightHours, .int v_t_nightTimes, .ref q_t_ground, .ref q_t_windows, .ref q_t_lawParts])), (q_t_ground, .inl (cI, 36, .inl v_t_ground)), (q_t_windows, .inl (cI, 6, .inl v_t_windows)), (q_t_lawParts, .inl (cI, 18, .inl v_t_lawParts))] sz) (QI D cI cJ cZ [(q_t, .inr (2, [.int v_t_columns, .int v_t_rows, .int v_t_fade, .int v_t_laws, .int v_t_nightHours, .int v_t_nightTimes, .ref q_t_ground, .ref q_t_windows, .ref q_t_lawParts])), (q_t_ground, .inl (cI, 36, .inl v_t_ground)), (q_t_windows, .inl (cI, 6, .inl v_t_windows)), (q_t_lawParts, .inl (cI, 18, .inl v_t_lawParts))] z (va_A [(q_t, .inr (2, [.int v_t_columns, .int v_t_rows, .int v_t_fade, .int v_t_laws, .int v_t_nightHours, .int v_t_nightTimes, .ref q_t_ground, .ref q_t_windows, .ref q_t_lawParts])), (q_t_ground, .inl (cI, 36, .inl v_t_ground)), (q_t_windows, .inl (cI, 6, .inl v_t_windows)), (q_t_lawParts, .inl (cI, 18, .inl v_t_lawParts))] sz)) 0 0 (va_A [(q_t, .inr (2, [.int v_t_columns, .int v_t_rows, .int v_t_fade, .int v_t_laws, .int v_t_nightHours, .int v_t_nightTimes, .ref q_t_ground, .ref q_t_windows, .ref q_t_lawParts])), (q_t_ground, .inl (cI, 36, .inl v_t_ground)), (q_t_windows, .inl (cI, 6, .inl v_t_windows)), (q_t_lawParts, .inl (cI, 18, .inl v_t_lawParts))] sz) := by
  refine mk_met (Qc := fun A => (QI D cI cJ cZ [(q_t, .inr (2, [.int v_t_columns, .int v_t_rows, .int v_t_fade, .int v_t_laws, .int v_t_nightHours, .int v_t_nightTimes, .ref q_t_ground, .ref q_t_windows, .ref q_t_lawParts])), (q_t_ground, .inl (cI, 36, .inl v_t_ground)), (q_t_windows, .inl (cI, 6, .inl v_t_windows)), (q_t_lawParts, .inl (cI, 18, .inl v_t_lawParts))] z A)) RX2 (by decide) rfl (Nat.le_of_ble_eq_true rfl) ?_
  intro p e s m below meth c ls A hx hb hr hml hown hts hlocks hA hK hE hl hD H locs hP hS
  have hl : lv_has ls 2 [(0, .ref q_t), (1, .int x1)] := hl
  unfold f_X2_windowOf at hf
  refine lv_iload_n hx hb dX2_windowOf_0 rfl (lv_at hl 1 rfl) ?_
  obtain ⟨z1_1, hz1_1, hf⟩ := bd_some hf
  refine cNi (host := RX9) (rest := []) ⟨hx, hb, hml, hown, hts⟩ hE hK hP hD hS hA (c_X9_isPerson l D cI cJ cZ en  H.size x1 hz1_1) w_490 (by decide +kernel) w_57 w_489 hd_X9_isPerson ⟨rfl, rfl⟩ ⟨by decide, by decide⟩ [] rfl rfl rfl  hl rfl (Nat.le_of_ble_eq_true rfl) ⟨Nat.zero_le _, Nat.zero_le _⟩ dX2_windowOf_1 (fun H locs hP hD hS => ?_)
  have hP : va_P D vwCl [(q_t, .inr (2, [.int v_t_columns, .int v_t_rows, .int v_t_fade, .int v_t_laws, .int v_t_nightHours, .int v_t_nightTimes, .ref q_t_ground, .ref q_t_windows, .ref q_t_lawParts])), (q_t_ground, .inl (cI, 36, .inl v_t_ground)), (q_t_windows, .inl (cI, 6, .inl v_t_windows)), (q_t_lawParts, .inl (cI, 18, .inl v_t_lawParts))] H := hP
  have hD : va_D A [(q_t, .inr (2, [.int v_t_columns, .int v_t_rows, .int v_t_fade, .int v_t_laws, .int v_t_nightHours, .int v_t_nightTimes, .ref q_t_ground, .ref q_t_windows, .ref q_t_lawParts])), (q_t_ground, .inl (cI, 36, .inl v_t_ground)), (q_t_windows, .inl (cI, 6, .inl v_t_windows)), (q_t_lawParts, .inl (cI, 18, .inl v_t_lawParts))] := hD
  refine lv_if_eq (tgt := 16) hx hb dX2_windowOf_4 (by decide) (fun h_2 => ?_) (fun h_2 => ?_)
  · have hf := (if_pos h_2).symm.trans hf
    refine lv_iconst (v := (-1)) hx hb dX2_windowOf_16 (by decide) ?_
    cases hf
    exact rt_i hx hb hr hlocks hK hP hS dX2_windowOf_17
  · have hf := (if_neg h_2).symm.trans hf
    refine lv_aload_n hx hb dX2_windowOf_7 rfl (lv_at hl 0 rfl) ?_
    refine va_get (D := D) (ci := 2) (v := .ref q_t_windows) (C := RX2) (T := TX2) (N := 9) hx hb hts inX2 hown hK hP 0 rfl rfl 7 (by decide) (hts _ w_151) (fun _ h9 => h9) rfl dX2_windowOf_8 ?_
    refine lv_iload_n hx hb dX2_windowOf_11 rfl (lv_at hl 1 rfl) ?_
    obtain ⟨hin, hf⟩ := gd_some hf
    refine va_iald hx hb hK hP 2 0 rfl rfl hin dX2_windowOf_12 ?_
    refine lv_goto (tgt := 17) hx hb dX2_windowOf_13 (by decide) ?_
    cases hf
    exact rt_i hx hb hr hlocks hK hP hS dX2_windowOf_17

def f_X2_cells (v_t_columns : Int32) (v_t_rows : Int32) : Option (Int32) :=
  (some (v_t_columns * v_t_rows))
theorem gv_X2_cells {own : String} {idx : Nat} (h : Cond.methodLink own idx yX2_cells ∈ lw_g) : GoodIn lw_g (wsV own idx RX2 yX2_cells (Cond.code yX2_cells cX2_cells 1 (some .int) :: lw_g)) := gV h w_749 w_750 w_60 w_751
theorem hd_X2_cells : yX2_cells.cls = RX2 ∧ yX2_cells.cls ≠ "java/lang/invoke/MethodHandle" ∧ yX2_cells.cls ≠ "java/lang/invoke/VarHandle" ∧ (parseMethodDescriptor yX2_cells.desc).map (fun d => d.parameters.length) = some 0 := by decide +kernel
set_option maxHeartbeats 4000000 in
set_option maxRecDepth 100000 in
theorem c_X2_cells (l : Launch) (D : va_G) (cI cJ cZ : ClassId) (en : EnT) (q_t q_t_ground q_t_windows q_t_lawParts : Nat) (sz : Nat) (v_t_columns : Int32) (v_t_rows : Int32) (v_t_fade : Int32) (v_t_laws : Int32) (v_t_nightHours : Int32) (v_t_nightTimes : Int32) (v_t_ground : Nat → Int32) (v_t_windows : Nat → Int32) (v_t_lawParts : Nat → Int32) {z : Int32} (hf : f_X2_cells v_t_columns v_t_rows = some z) : Met l yX2_cells (Cond.code yX2_cells cX2_cells 1 (some .int) :: lw_g) ({ frames := 0, cells := 0, slots := 0, locals := 0 } : Room) (PC D cI cJ cZ en ([.ref q_t] : List Value) [(q_t, .inr (2, [.int v_t_columns, .int v_t_rows, .int v_t_fade, .int v_t_laws, .int v_t_nightHours, .int v_t_nightTimes, .ref q_t_ground, .ref q_t_windows, .ref q_t_lawParts])), (q_t_ground, .inl (cI, 36, .inl v_t_ground)), (q_t_windows, .inl (cI, 6, .inl v_t_windows)), (q_t_lawParts, .inl (cI, 18, .inl v_t_lawParts))] sz) (QI D cI cJ cZ [(q_t, .inr (2, [.int v_t_columns, .int v_t_rows, .int v_t_fade, .int v_t_laws, .int v_t_nightHours, .int v_t_nightTimes, .ref q_t_ground, .ref q_t_windows, .ref q_t_lawParts])), (q_t_ground, .inl (cI, 36, .inl v_t_ground)), (q_t_windows, .inl (cI, 6, .inl v_t_windows)), (q_t_lawParts, .inl (cI, 18, .inl v_t_lawParts))] z (va_A [(q_t, .inr (2, [.int v_t_columns, .int v_t_rows, .int v_t_fade, .int v_t_laws, .int v_t_nightHours, .int v_t_nightTimes, .ref q_t_ground, .ref q_t_windows, .ref q_t_lawParts])), (q_t_ground, .inl (cI, 36, .inl v_t_ground)), (q_t_windows, .inl (cI, 6, .inl v_t_windows)), (q_t_lawParts, .inl (cI, 18, .inl v_t_lawParts))] sz)) 0 0 (va_A [(q_t, .inr (2, [.int v_t_columns, .int v_t_rows, .int v_t_fade, .int v_t_laws, .int v_t_nightHours, .int v_t_nightTimes, .ref q_t_ground, .ref q_t_windows, .ref q_t_lawParts])), (q_t_ground, .inl (cI, 36, .inl v_t_ground)), (q_t_windows, .inl (cI, 6, .inl v_t_windows)), (q_t_lawParts, .inl (cI, 18, .inl v_t_lawParts))] sz) := by
  refine mk_met (Qc := fun A => (QI D cI cJ cZ [(q_t, .inr (2, [.int v_t_columns, .int v_t_rows, .int v_t_fade, .int v_t_laws, .int v_t_nightHours, .int v_t_nightTimes, .ref q_t_ground, .ref q_t_windows, .ref q_t_lawParts])), (q_t_ground, .inl (cI, 36, .inl v_t_ground)), (q_t_windows, .inl (cI, 6, .inl v_t_windows)), (q_t_lawParts, .inl (cI, 18, .inl v_t_lawParts))] z A)) RX2 (by decide) rfl (Nat.le_of_ble_eq_true rfl) ?_
  intro p e s m below meth c ls A hx hb hr hml hown hts hlocks hA hK hE hl hD H locs hP hS
  have hl : lv_has ls 1 [(0, .ref q_t)] := hl
  unfold f_X2_cells at hf
  refine lv_aload_n hx hb dX2_cells_0 rfl (lv_at hl 0 rfl) ?_
  refine va_get (D := D) (ci := 2) (v := .int v_t_columns) (C := RX2) (T := TX2) (N := 9) hx hb hts inX2 hown hK hP 0 rfl rfl 0 (by decide) (hts _ w_133) (fun _ h9 => h9) rfl dX2_cells_1 ?_
  refine lv_aload_n hx hb dX2_cells_4 rfl (lv_at hl 0 rfl) ?_
  refine va_get (D := D) (ci := 2) (v := .int v_t_rows) (C := RX2) (T := TX2) (N := 9) hx hb hts inX2 hown hK hP 0 rfl rfl 1 (by decide) (hts _ w_136) (fun _ h9 => h9) rfl dX2_cells_5 ?_
  refine lv_imul hx hb dX2_cells_8 ?_
  cases hf
  exact rt_i hx hb hr hlocks hK hP hS dX2_cells_9

def f_X2_cellAt (v_t_columns : Int32) (v_t_rows : Int32) (x1 : Int32) (x2 : Int32) : Option (Int32) :=
  (if x1 < 0 then (some (-1)) else (if v_t_columns ≤ x1 then (some (-1)) else (if x2 < 0 then (some (-1)) else (if x2 < v_t_rows then (some ((v_t_columns * x2) + x1)) else (some (-1))))))
theorem gv_X2_cellAt {own : String} {idx : Nat} (h : Cond.methodLink own idx yX2_cellAt ∈ lw_g) : GoodIn lw_g (wsV own idx RX2 yX2_cellAt (Cond.code yX2_cellAt cX2_cellAt 3 (some .int) :: lw_g)) := gV h w_457 w_458 w_60 w_459
theorem hd_X2_cellAt : yX2_cellAt.cls = RX2 ∧ yX2_cellAt.cls ≠ "java/lang/invoke/MethodHandle" ∧ yX2_cellAt.cls ≠ "java/lang/invoke/VarHandle" ∧ (parseMethodDescriptor yX2_cellAt.desc).map (fun d => d.parameters.length) = some 2 := by decide +kernel
set_option maxHeartbeats 4000000 in
set_option maxRecDepth 100000 in
theorem c_X2_cellAt (l : Launch) (D : va_G) (cI cJ cZ : ClassId) (en : EnT) (q_t q_t_ground q_t_windows q_t_lawParts : Nat) (sz : Nat) (v_t_columns : Int32) (v_t_rows : Int32) (v_t_fade : Int32) (v_t_laws : Int32) (v_t_nightHours : Int32) (v_t_nightTimes : Int32) (v_t_ground : Nat → Int32) (v_t_windows : Nat → Int32) (v_t_lawParts : Nat → Int32) (x1 : Int32) (x2 : Int32) {z : Int32} (hf : f_X2_cellAt v_t_columns v_t_rows x1 x2 = some z) : Met l yX2_cellAt (Cond.code yX2_cellAt cX2_cellAt 3 (some .int) :: lw_g) ({ frames := 0, cells := 0, slots := 0, locals := 0 } : Room) (PC D cI cJ cZ en ([.ref q_t, .int x1, .int x2] : List Value) [(q_t, .inr (2, [.int v_t_columns, .int v_t_rows, .int v_t_fade, .int v_t_laws, .int v_t_nightHours, .int v_t_nightTimes, .ref q_t_ground, .ref q_t_windows, .ref q_t_lawParts])), (q_t_ground, .inl (cI, 36, .inl v_t_ground)), (q_t_windows, .inl (cI, 6, .inl v_t_windows)), (q_t_lawParts, .inl (cI, 18, .inl v_t_lawParts))] sz) (QI D cI cJ cZ [(q_t, .inr (2, [.int v_t_columns, .int v_t_rows, .int v_t_fade, .int v_t_laws, .int v_t_nightHours, .int v_t_nightTimes, .ref q_t_ground, .ref q_t_windows, .ref q_t_lawParts])), (q_t_ground, .inl (cI, 36, .inl v_t_ground)), (q_t_windows, .inl (cI, 6, .inl v_t_windows)), (q_t_lawParts, .inl (cI, 18, .inl v_t_lawParts))] z (va_A [(q_t, .inr (2, [.int v_t_columns, .int v_t_rows, .int v_t_fade, .int v_t_laws, .int v_t_nightHours, .int v_t_nightTimes, .ref q_t_ground, .ref q_t_windows, .ref q_t_lawParts])), (q_t_ground, .inl (cI, 36, .inl v_t_ground)), (q_t_windows, .inl (cI, 6, .inl v_t_windows)), (q_t_lawParts, .inl (cI, 18, .inl v_t_lawParts))] sz)) 0 0 (va_A [(q_t, .inr (2, [.int v_t_columns, .int v_t_rows, .int v_t_fade, .int v_t_laws, .int v_t_nightHours, .int v_t_nightTimes, .ref q_t_ground, .ref q_t_windows, .ref q_t_lawParts])), (q_t_ground, .inl (cI, 36, .inl v_t_ground)), (q_t_windows, .inl (cI, 6, .inl v_t_windows)), (q_t_lawParts, .inl (cI, 18, .inl v_t_lawParts))] sz) := by
  refine mk_met (Qc := fun A => (QI D cI cJ cZ [(q_t, .inr (2, [.int v_t_columns, .int v_t_rows, .int v_t_fade, .int v_t_laws, .int v_t_nightHours, .int v_t_nightTimes, .ref q_t_ground, .ref q_t_windows, .ref q_t_lawParts])), (q_t_ground, .inl (cI, 36, .inl v_t_ground)), (q_t_windows, .inl (cI, 6, .inl v_t_windows)), (q_t_lawParts, .inl (cI, 18, .inl v_t_lawParts))] z A)) RX2 (by decide) rfl (Nat.le_of_ble_eq_true rfl) ?_
  intro p e s m below meth c ls A hx hb hr hml hown hts hlocks hA hK hE hl hD H locs hP hS
  have hl : lv_has ls 3 [(0, .ref q_t), (1, .int x1), (2, .int x2)] := hl
  unfold f_X2_cellAt at hf
  refine lv_iload_n hx hb dX2_cellAt_0 rfl (lv_at hl 1 rfl) ?_
  refine lv_if_lt (tgt := 24) hx hb dX2_cellAt_1 (by decide) (fun h_1 => ?_) (fun h_1 => ?_)
  · have hf := (if_pos h_1).symm.trans hf
    refine lv_iconst (v := (-1)) hx hb dX2_cellAt_24 (by decide) ?_
    cases hf
    exact rt_i hx hb hr hlocks hK hP hS dX2_cellAt_25
  · have hf := (if_neg h_1).symm.trans hf
    refine lv_iload_n hx hb dX2_cellAt_4 rfl (lv_at hl 1 rfl) ?_
    refine lv_aload_n hx hb dX2_cellAt_5 rfl (lv_at hl 0 rfl) ?_
    refine va_get (D := D) (ci := 2) (v := .int v_t_columns) (C := RX2) (T := TX2) (N := 9) hx hb hts inX2 hown hK hP 0 rfl rfl 0 (by decide) (hts _ w_133) (fun _ h9 => h9) rfl dX2_cellAt_6 ?_
    refine lv_icmp_ge (tgt := 24) hx hb dX2_cellAt_9 (by decide) (fun h_2 => ?_) (fun h_2 => ?_)
    · have hf := (if_pos h_2).symm.trans hf
      refine lv_iconst (v := (-1)) hx hb dX2_cellAt_24 (by decide) ?_
      cases hf
      exact rt_i hx hb hr hlocks hK hP hS dX2_cellAt_25
    · have hf := (if_neg h_2).symm.trans hf
      refine lv_iload_n hx hb dX2_cellAt_12 rfl (lv_at hl 2 rfl) ?_
      refine lv_if_lt (tgt := 24) hx hb dX2_cellAt_13 (by decide) (fun h_3 => ?_) (fun h_3 => ?_)
      · have hf := (if_pos h_3).symm.trans hf
        refine lv_iconst (v := (-1)) hx hb dX2_cellAt_24 (by decide) ?_
        cases hf
        exact rt_i hx hb hr hlocks hK hP hS dX2_cellAt_25
      · have hf := (if_neg h_3).symm.trans hf
        refine lv_iload_n hx hb dX2_cellAt_16 rfl (lv_at hl 2 rfl) ?_
        refine lv_aload_n hx hb dX2_cellAt_17 rfl (lv_at hl 0 rfl) ?_
        refine va_get (D := D) (ci := 2) (v := .int v_t_rows) (C := RX2) (T := TX2) (N := 9) hx hb hts inX2 hown hK hP 0 rfl rfl 1 (by decide) (hts _ w_136) (fun _ h9 => h9) rfl dX2_cellAt_18 ?_
        refine lv_icmp_lt (tgt := 26) hx hb dX2_cellAt_21 (by decide) (fun h_4 => ?_) (fun h_4 => ?_)
        · have hf := (if_pos h_4).symm.trans hf
          refine lv_aload_n hx hb dX2_cellAt_26 rfl (lv_at hl 0 rfl) ?_
          refine va_get (D := D) (ci := 2) (v := .int v_t_columns) (C := RX2) (T := TX2) (N := 9) hx hb hts inX2 hown hK hP 0 rfl rfl 0 (by decide) (hts _ w_133) (fun _ h9 => h9) rfl dX2_cellAt_27 ?_
          refine lv_iload_n hx hb dX2_cellAt_30 rfl (lv_at hl 2 rfl) ?_
          refine lv_imul hx hb dX2_cellAt_31 ?_
          refine lv_iload_n hx hb dX2_cellAt_32 rfl (lv_at hl 1 rfl) ?_
          refine lv_iadd hx hb dX2_cellAt_33 ?_
          cases hf
          exact rt_i hx hb hr hlocks hK hP hS dX2_cellAt_34
        · have hf := (if_neg h_4).symm.trans hf
          refine lv_iconst (v := (-1)) hx hb dX2_cellAt_24 (by decide) ?_
          cases hf
          exact rt_i hx hb hr hlocks hK hP hS dX2_cellAt_25

def f_X2_columnOf (v_t_columns : Int32) (x1 : Int32) : Option (Int32) :=
  (if 1 ≤ v_t_columns then gd (¬ v_t_columns = 0) ((some (x1 - x1 / v_t_columns * v_t_columns))) else (some 0))
theorem gv_X2_columnOf {own : String} {idx : Nat} (h : Cond.methodLink own idx yX2_columnOf ∈ lw_g) : GoodIn lw_g (wsV own idx RX2 yX2_columnOf (Cond.code yX2_columnOf cX2_columnOf 2 (some .int) :: lw_g)) := gV h w_599 w_12 w_60 w_600
theorem hd_X2_columnOf : yX2_columnOf.cls = RX2 ∧ yX2_columnOf.cls ≠ "java/lang/invoke/MethodHandle" ∧ yX2_columnOf.cls ≠ "java/lang/invoke/VarHandle" ∧ (parseMethodDescriptor yX2_columnOf.desc).map (fun d => d.parameters.length) = some 1 := by decide +kernel
set_option maxHeartbeats 4000000 in
set_option maxRecDepth 100000 in
theorem c_X2_columnOf (l : Launch) (D : va_G) (cI cJ cZ : ClassId) (en : EnT) (q_t q_t_ground q_t_windows q_t_lawParts : Nat) (sz : Nat) (v_t_columns : Int32) (v_t_rows : Int32) (v_t_fade : Int32) (v_t_laws : Int32) (v_t_nightHours : Int32) (v_t_nightTimes : Int32) (v_t_ground : Nat → Int32) (v_t_windows : Nat → Int32) (v_t_lawParts : Nat → Int32) (x1 : Int32) {z : Int32} (hf : f_X2_columnOf v_t_columns x1 = some z) : Met l yX2_columnOf (Cond.code yX2_columnOf cX2_columnOf 2 (some .int) :: lw_g) ({ frames := 0, cells := 0, slots := 0, locals := 0 } : Room) (PC D cI cJ cZ en ([.ref q_t, .int x1] : List Value) [(q_t, .inr (2, [.int v_t_columns, .int v_t_rows, .int v_t_fade, .int v_t_laws, .int v_t_nightHours, .int v_t_nightTimes, .ref q_t_ground, .ref q_t_windows, .ref q_t_lawParts])), (q_t_ground, .inl (cI, 36, .inl v_t_ground)), (q_t_windows, .inl (cI, 6, .inl v_t_windows)), (q_t_lawParts, .inl (cI, 18, .inl v_t_lawParts))] sz) (QI D cI cJ cZ [(q_t, .inr (2, [.int v_t_columns, .int v_t_rows, .int v_t_fade, .int v_t_laws, .int v_t_nightHours, .int v_t_nightTimes, .ref q_t_ground, .ref q_t_windows, .ref q_t_lawParts])), (q_t_ground, .inl (cI, 36, .inl v_t_ground)), (q_t_windows, .inl (cI, 6, .inl v_t_windows)), (q_t_lawParts, .inl (cI, 18, .inl v_t_lawParts))] z (va_A [(q_t, .inr (2, [.int v_t_columns, .int v_t_rows, .int v_t_fade, .int v_t_laws, .int v_t_nightHours, .int v_t_nightTimes, .ref q_t_ground, .ref q_t_windows, .ref q_t_lawParts])), (q_t_ground, .inl (cI, 36, .inl v_t_ground)), (q_t_windows, .inl (cI, 6, .inl v_t_windows)), (q_t_lawParts, .inl (cI, 18, .inl v_t_lawParts))] sz)) 0 0 (va_A [(q_t, .inr (2, [.int v_t_columns, .int v_t_rows, .int v_t_fade, .int v_t_laws, .int v_t_nightHours, .int v_t_nightTimes, .ref q_t_ground, .ref q_t_windows, .ref q_t_lawParts])), (q_t_ground, .inl (cI, 36, .inl v_t_ground)), (q_t_windows, .inl (cI, 6, .inl v_t_windows)), (q_t_lawParts, .inl (cI, 18, .inl v_t_lawParts))] sz) := by
  refine mk_met (Qc := fun A => (QI D cI cJ cZ [(q_t, .inr (2, [.int v_t_columns, .int v_t_rows, .int v_t_fade, .int v_t_laws, .int v_t_nightHours, .int v_t_nightTimes, .ref q_t_ground, .ref q_t_windows, .ref q_t_lawParts])), (q_t_ground, .inl (cI, 36, .inl v_t_ground)), (q_t_windows, .inl (cI, 6, .inl v_t_windows)), (q_t_lawParts, .inl (cI, 18, .inl v_t_lawParts))] z A)) RX2 (by decide) rfl (Nat.le_of_ble_eq_true rfl) ?_
  intro p e s m below meth c ls A hx hb hr hml hown hts hlocks hA hK hE hl hD H locs hP hS
  have hl : lv_has ls 2 [(0, .ref q_t), (1, .int x1)] := hl
  unfold f_X2_columnOf at hf
  refine lv_aload_n hx hb dX2_columnOf_0 rfl (lv_at hl 0 rfl) ?_
  refine va_get (D := D) (ci := 2) (v := .int v_t_columns) (C := RX2) (T := TX2) (N := 9) hx hb hts inX2 hown hK hP 0 rfl rfl 0 (by decide) (hts _ w_133) (fun _ h9 => h9) rfl dX2_columnOf_1 ?_
  refine lv_iconst (v := 1) hx hb dX2_columnOf_4 (by decide) ?_
  refine lv_icmp_ge (tgt := 12) hx hb dX2_columnOf_5 (by decide) (fun h_1 => ?_) (fun h_1 => ?_)
  · have hf := (if_pos h_1).symm.trans hf
    refine lv_iload_n hx hb dX2_columnOf_12 rfl (lv_at hl 1 rfl) ?_
    refine lv_aload_n hx hb dX2_columnOf_13 rfl (lv_at hl 0 rfl) ?_
    refine va_get (D := D) (ci := 2) (v := .int v_t_columns) (C := RX2) (T := TX2) (N := 9) hx hb hts inX2 hown hK hP 0 rfl rfl 0 (by decide) (hts _ w_133) (fun _ h9 => h9) rfl dX2_columnOf_14 ?_
    obtain ⟨hin, hf⟩ := gd_some hf
    refine lv_irem hx hb dX2_columnOf_17 hin ?_
    cases hf
    exact rt_i hx hb hr hlocks hK hP hS dX2_columnOf_18
  · have hf := (if_neg h_1).symm.trans hf
    refine lv_iconst (v := 0) hx hb dX2_columnOf_8 (by decide) ?_
    refine lv_goto (tgt := 18) hx hb dX2_columnOf_9 (by decide) ?_
    cases hf
    exact rt_i hx hb hr hlocks hK hP hS dX2_columnOf_18

def f_X2_rowOf (v_t_columns : Int32) (x1 : Int32) : Option (Int32) :=
  (if 1 ≤ v_t_columns then gd (¬ v_t_columns = 0) ((some (x1 / v_t_columns))) else (some 0))
theorem gv_X2_rowOf {own : String} {idx : Nat} (h : Cond.methodLink own idx yX2_rowOf ∈ lw_g) : GoodIn lw_g (wsV own idx RX2 yX2_rowOf (Cond.code yX2_rowOf cX2_rowOf 2 (some .int) :: lw_g)) := gV h w_605 w_13 w_60 w_606
theorem hd_X2_rowOf : yX2_rowOf.cls = RX2 ∧ yX2_rowOf.cls ≠ "java/lang/invoke/MethodHandle" ∧ yX2_rowOf.cls ≠ "java/lang/invoke/VarHandle" ∧ (parseMethodDescriptor yX2_rowOf.desc).map (fun d => d.parameters.length) = some 1 := by decide +kernel
set_option maxHeartbeats 4000000 in
set_option maxRecDepth 100000 in
theorem c_X2_rowOf (l : Launch) (D : va_G) (cI cJ cZ : ClassId) (en : EnT) (q_t q_t_ground q_t_windows q_t_lawParts : Nat) (sz : Nat) (v_t_columns : Int32) (v_t_rows : Int32) (v_t_fade : Int32) (v_t_laws : Int32) (v_t_nightHours : Int32) (v_t_nightTimes : Int32) (v_t_ground : Nat → Int32) (v_t_windows : Nat → Int32) (v_t_lawParts : Nat → Int32) (x1 : Int32) {z : Int32} (hf : f_X2_rowOf v_t_columns x1 = some z) : Met l yX2_rowOf (Cond.code yX2_rowOf cX2_rowOf 2 (some .int) :: lw_g) ({ frames := 0, cells := 0, slots := 0, locals := 0 } : Room) (PC D cI cJ cZ en ([.ref q_t, .int x1] : List Value) [(q_t, .inr (2, [.int v_t_columns, .int v_t_rows, .int v_t_fade, .int v_t_laws, .int v_t_nightHours, .int v_t_nightTimes, .ref q_t_ground, .ref q_t_windows, .ref q_t_lawParts])), (q_t_ground, .inl (cI, 36, .inl v_t_ground)), (q_t_windows, .inl (cI, 6, .inl v_t_windows)), (q_t_lawParts, .inl (cI, 18, .inl v_t_lawParts))] sz) (QI D cI cJ cZ [(q_t, .inr (2, [.int v_t_columns, .int v_t_rows, .int v_t_fade, .int v_t_laws, .int v_t_nightHours, .int v_t_nightTimes, .ref q_t_ground, .ref q_t_windows, .ref q_t_lawParts])), (q_t_ground, .inl (cI, 36, .inl v_t_ground)), (q_t_windows, .inl (cI, 6, .inl v_t_windows)), (q_t_lawParts, .inl (cI, 18, .inl v_t_lawParts))] z (va_A [(q_t, .inr (2, [.int v_t_columns, .int v_t_rows, .int v_t_fade, .int v_t_laws, .int v_t_nightHours, .int v_t_nightTimes, .ref q_t_ground, .ref q_t_windows, .ref q_t_lawParts])), (q_t_ground, .inl (cI, 36, .inl v_t_ground)), (q_t_windows, .inl (cI, 6, .inl v_t_windows)), (q_t_lawParts, .inl (cI, 18, .inl v_t_lawParts))] sz)) 0 0 (va_A [(q_t, .inr (2, [.int v_t_columns, .int v_t_rows, .int v_t_fade, .int v_t_laws, .int v_t_nightHours, .int v_t_nightTimes, .ref q_t_ground, .ref q_t_windows, .ref q_t_lawParts])), (q_t_ground, .inl (cI, 36, .inl v_t_ground)), (q_t_windows, .inl (cI, 6, .inl v_t_windows)), (q_t_lawParts, .inl (cI, 18, .inl v_t_lawParts))] sz) := by
  refine mk_met (Qc := fun A => (QI D cI cJ cZ [(q_t, .inr (2, [.int v_t_columns, .int v_t_rows, .int v_t_fade, .int v_t_laws, .int v_t_nightHours, .int v_t_nightTimes, .ref q_t_ground, .ref q_t_windows, .ref q_t_lawParts])), (q_t_ground, .inl (cI, 36, .inl v_t_ground)), (q_t_windows, .inl (cI, 6, .inl v_t_windows)), (q_t_lawParts, .inl (cI, 18, .inl v_t_lawParts))] z A)) RX2 (by decide) rfl (Nat.le_of_ble_eq_true rfl) ?_
  intro p e s m below meth c ls A hx hb hr hml hown hts hlocks hA hK hE hl hD H locs hP hS
  have hl : lv_has ls 2 [(0, .ref q_t), (1, .int x1)] := hl
  unfold f_X2_rowOf at hf
  refine lv_aload_n hx hb dX2_rowOf_0 rfl (lv_at hl 0 rfl) ?_
  refine va_get (D := D) (ci := 2) (v := .int v_t_columns) (C := RX2) (T := TX2) (N := 9) hx hb hts inX2 hown hK hP 0 rfl rfl 0 (by decide) (hts _ w_133) (fun _ h9 => h9) rfl dX2_rowOf_1 ?_
  refine lv_iconst (v := 1) hx hb dX2_rowOf_4 (by decide) ?_
  refine lv_icmp_ge (tgt := 12) hx hb dX2_rowOf_5 (by decide) (fun h_1 => ?_) (fun h_1 => ?_)
  · have hf := (if_pos h_1).symm.trans hf
    refine lv_iload_n hx hb dX2_rowOf_12 rfl (lv_at hl 1 rfl) ?_
    refine lv_aload_n hx hb dX2_rowOf_13 rfl (lv_at hl 0 rfl) ?_
    refine va_get (D := D) (ci := 2) (v := .int v_t_columns) (C := RX2) (T := TX2) (N := 9) hx hb hts inX2 hown hK hP 0 rfl rfl 0 (by decide) (hts _ w_133) (fun _ h9 => h9) rfl dX2_rowOf_14 ?_
    obtain ⟨hin, hf⟩ := gd_some hf
    refine lv_idiv hx hb dX2_rowOf_17 hin ?_
    cases hf
    exact rt_i hx hb hr hlocks hK hP hS dX2_rowOf_18
  · have hf := (if_neg h_1).symm.trans hf
    refine lv_iconst (v := 0) hx hb dX2_rowOf_8 (by decide) ?_
    refine lv_goto (tgt := 18) hx hb dX2_rowOf_9 (by decide) ?_
    cases hf
    exact rt_i hx hb hr hlocks hK hP hS dX2_rowOf_18

def f_X2_rocks_J23 (rc4 : (Int32) → (Int32) → Option (Int32)) (x1 : Int32) (x2 : Int32) : Option (Int32) :=
  (rc4 x1 (x2 + 1))
def f_X2_rocks_L4 (v_t_columns : Int32) (v_t_rows : Int32) (v_t_ground : Nat → Int32) : Nat → (Int32) → (Int32) → Option (Int32)
  | 0, _, _ => none
  | n + 1, x1, x2 => (f_X2_cells v_t_columns v_t_rows).bind (fun z6 => (if z6 ≤ x2 then (some x1) else (f_X2_isRock v_t_columns v_t_rows v_t_ground x2).bind (fun z14 => (if z14 = 0 then (f_X2_rocks_J23 (f_X2_rocks_L4 v_t_columns v_t_rows v_t_ground n) x1 x2) else (f_X2_rocks_J23 (f_X2_rocks_L4 v_t_columns v_t_rows v_t_ground n) (x1 + 1) x2)))))
def f_X2_rocks (v_t_columns : Int32) (v_t_rows : Int32) (v_t_ground : Nat → Int32) : Option (Int32) :=
  (f_X2_rocks_L4 v_t_columns v_t_rows v_t_ground FU 0 0)
theorem gv_X2_rocks {own : String} {idx : Nat} (h : Cond.methodLink own idx yX2_rocks ∈ lw_g) : GoodIn lw_g (wsV own idx RX2 yX2_rocks (Cond.code yX2_rocks cX2_rocks 3 (some .int) :: lw_g)) := gV h w_891 w_892 w_60 w_893
theorem hd_X2_rocks : yX2_rocks.cls = RX2 ∧ yX2_rocks.cls ≠ "java/lang/invoke/MethodHandle" ∧ yX2_rocks.cls ≠ "java/lang/invoke/VarHandle" ∧ (parseMethodDescriptor yX2_rocks.desc).map (fun d => d.parameters.length) = some 0 := by decide +kernel
set_option maxHeartbeats 4000000 in
set_option maxRecDepth 100000 in
theorem c_X2_rocks (l : Launch) (D : va_G) (cI cJ cZ : ClassId) (en : EnT) (q_t q_t_ground q_t_windows q_t_lawParts : Nat) (sz : Nat) (v_t_columns : Int32) (v_t_rows : Int32) (v_t_fade : Int32) (v_t_laws : Int32) (v_t_nightHours : Int32) (v_t_nightTimes : Int32) (v_t_ground : Nat → Int32) (v_t_windows : Nat → Int32) (v_t_lawParts : Nat → Int32) {z : Int32} (hf : f_X2_rocks v_t_columns v_t_rows v_t_ground = some z) : Met l yX2_rocks (Cond.code yX2_rocks cX2_rocks 3 (some .int) :: lw_g) ({ frames := 2, cells := 0, slots := 0, locals := 42 } : Room) (PC D cI cJ cZ en ([.ref q_t] : List Value) [(q_t, .inr (2, [.int v_t_columns, .int v_t_rows, .int v_t_fade, .int v_t_laws, .int v_t_nightHours, .int v_t_nightTimes, .ref q_t_ground, .ref q_t_windows, .ref q_t_lawParts])), (q_t_ground, .inl (cI, 36, .inl v_t_ground)), (q_t_windows, .inl (cI, 6, .inl v_t_windows)), (q_t_lawParts, .inl (cI, 18, .inl v_t_lawParts))] sz) (QI D cI cJ cZ [(q_t, .inr (2, [.int v_t_columns, .int v_t_rows, .int v_t_fade, .int v_t_laws, .int v_t_nightHours, .int v_t_nightTimes, .ref q_t_ground, .ref q_t_windows, .ref q_t_lawParts])), (q_t_ground, .inl (cI, 36, .inl v_t_ground)), (q_t_windows, .inl (cI, 6, .inl v_t_windows)), (q_t_lawParts, .inl (cI, 18, .inl v_t_lawParts))] z (va_A [(q_t, .inr (2, [.int v_t_columns, .int v_t_rows, .int v_t_fade, .int v_t_laws, .int v_t_nightHours, .int v_t_nightTimes, .ref q_t_ground, .ref q_t_windows, .ref q_t_lawParts])), (q_t_ground, .inl (cI, 36, .inl v_t_ground)), (q_t_windows, .inl (cI, 6, .inl v_t_windows)), (q_t_lawParts, .inl (cI, 18, .inl v_t_lawParts))] sz)) 0 0 (va_A [(q_t, .inr (2, [.int v_t_columns, .int v_t_rows, .int v_t_fade, .int v_t_laws, .int v_t_nightHours, .int v_t_nightTimes, .ref q_t_ground, .ref q_t_windows, .ref q_t_lawParts])), (q_t_ground, .inl (cI, 36, .inl v_t_ground)), (q_t_windows, .inl (cI, 6, .inl v_t_windows)), (q_t_lawParts, .inl (cI, 18, .inl v_t_lawParts))] sz) := by
  refine mk_met (Qc := fun A => (QI D cI cJ cZ [(q_t, .inr (2, [.int v_t_columns, .int v_t_rows, .int v_t_fade, .int v_t_laws, .int v_t_nightHours, .int v_t_nightTimes, .ref q_t_ground, .ref q_t_windows, .ref q_t_lawParts])), (q_t_ground, .inl (cI, 36, .inl v_t_ground)), (q_t_windows, .inl (cI, 6, .inl v_t_windows)), (q_t_lawParts, .inl (cI, 18, .inl v_t_lawParts))] z A)) RX2 (by decide) rfl (Nat.le_of_ble_eq_true rfl) ?_
  intro p e s m below meth c ls A hx hb hr hml hown hts hlocks hA hK hE hl hD H locs hP hS
  have hl : lv_has ls 3 [(0, .ref q_t)] := hl
  unfold f_X2_rocks at hf
  refine lv_iconst (v := 0) hx hb dX2_rocks_0 (by decide) ?_
  refine lv_istore_n (lv' := [(1, .int 0), (0, .ref q_t)]) hx hb dX2_rocks_1 rfl hl (by decide) rfl (fun ls hl => ?_)
  refine lv_iconst (v := 0) hx hb dX2_rocks_2 (by decide) ?_
  refine lv_istore_n (lv' := [(2, .int 0), (1, .int 0), (0, .ref q_t)]) hx hb dX2_rocks_3 rfl hl (by decide) rfl (fun ls hl => ?_)
  have L4_3 : ∀ (n : Nat) (x1_1 : Int32) (x2_2 : Int32), f_X2_rocks_L4 v_t_columns v_t_rows v_t_ground n x1_1 x2_2 = some z → ∀ (H : Heap) (locs : List Loc) (ls : Array Slot), va_P D vwCl [(q_t, .inr (2, [.int v_t_columns, .int v_t_rows, .int v_t_fade, .int v_t_laws, .int v_t_nightHours, .int v_t_nightTimes, .ref q_t_ground, .ref q_t_windows, .ref q_t_lawParts])), (q_t_ground, .inl (cI, 36, .inl v_t_ground)), (q_t_windows, .inl (cI, 6, .inl v_t_windows)), (q_t_lawParts, .inl (cI, 18, .inl v_t_lawParts))] H → va_D A [(q_t, .inr (2, [.int v_t_columns, .int v_t_rows, .int v_t_fade, .int v_t_laws, .int v_t_nightHours, .int v_t_nightTimes, .ref q_t_ground, .ref q_t_windows, .ref q_t_lawParts])), (q_t_ground, .inl (cI, 36, .inl v_t_ground)), (q_t_windows, .inl (cI, 6, .inl v_t_windows)), (q_t_lawParts, .inl (cI, 18, .inl v_t_lawParts))] → va_S A s.heap H locs → lv_has ls 3 [(0, .ref q_t), (1, .int x1_1), (2, .int x2_2)] → W p l e ({ frames := 2, cells := 0, slots := 0, locals := 42 } : Room) s m ([.ref q_t] : List Value).toArray below meth c H locs 0 0 (MQ below (QI D cI cJ cZ [(q_t, .inr (2, [.int v_t_columns, .int v_t_rows, .int v_t_fade, .int v_t_laws, .int v_t_nightHours, .int v_t_nightTimes, .ref q_t_ground, .ref q_t_windows, .ref q_t_lawParts])), (q_t_ground, .inl (cI, 36, .inl v_t_ground)), (q_t_windows, .inl (cI, 6, .inl v_t_windows)), (q_t_lawParts, .inl (cI, 18, .inl v_t_lawParts))] z A) ([.ref q_t] : List Value).toArray s 0 0 A) (F0 m 4 ls []) := by
    intro n
    induction n with
    | zero =>
      intro x1_1 x2_2 hf
      cases hf
    | succ n ih_4 =>
      intro x1_1 x2_2 hf H locs ls hP hD hS hl
      rw [f_X2_rocks_L4] at hf
      refine lv_iload_n hx hb dX2_rocks_4 rfl (lv_at hl 2 rfl) ?_
      refine lv_aload_n hx hb dX2_rocks_5 rfl (lv_at hl 0 rfl) ?_
      obtain ⟨z6_5, hz6_5, hf⟩ := bd_some hf
      refine cVi (rest := [.int x2_2]) ⟨hx, hb, hml, hown, hts⟩ hE hK hP hD hS hA (c_X2_cells l D cI cJ cZ en q_t q_t_ground q_t_windows q_t_lawParts H.size v_t_columns v_t_rows v_t_fade v_t_laws v_t_nightHours v_t_nightTimes v_t_ground v_t_windows v_t_lawParts hz6_5) (gv_X2_cells w_894) hd_X2_cells ⟨rfl, rfl⟩ ⟨by decide, by decide⟩ [0, 1, 2, 3] rfl rfl rfl 2 rfl rfl 0 rfl  hl rfl (Nat.le_of_ble_eq_true rfl) ⟨Nat.zero_le _, Nat.zero_le _⟩ dX2_rocks_6 (fun H locs hP hD hS => ?_)
      have hP : va_P D vwCl [(q_t, .inr (2, [.int v_t_columns, .int v_t_rows, .int v_t_fade, .int v_t_laws, .int v_t_nightHours, .int v_t_nightTimes, .ref q_t_ground, .ref q_t_windows, .ref q_t_lawParts])), (q_t_ground, .inl (cI, 36, .inl v_t_ground)), (q_t_windows, .inl (cI, 6, .inl v_t_windows)), (q_t_lawParts, .inl (cI, 18, .inl v_t_lawParts))] H := hP
      have hD : va_D A [(q_t, .inr (2, [.int v_t_columns, .int v_t_rows, .int v_t_fade, .int v_t_laws, .int v_t_nightHours, .int v_t_nightTimes, .ref q_t_ground, .ref q_t_windows, .ref q_t_lawParts])), (q_t_ground, .inl (cI, 36, .inl v_t_ground)), (q_t_windows, .inl (cI, 6, .inl v_t_windows)), (q_t_lawParts, .inl (cI, 18, .inl v_t_lawParts))] := hD
      refine lv_icmp_ge (tgt := 29) hx hb dX2_rocks_9 (by decide) (fun h_6 => ?_) (fun h_6 => ?_)
      · have hf := (if_pos h_6).symm.trans hf
        refine lv_iload_n hx hb dX2_rocks_29 rfl (lv_at hl 1 rfl) ?_
        cases hf
        exact rt_i hx hb hr hlocks hK hP hS dX2_rocks_30
      · have hf := (if_neg h_6).symm.trans hf
        refine lv_aload_n hx hb dX2_rocks_12 rfl (lv_at hl 0 rfl) ?_
        refine lv_iload_n hx hb dX2_rocks_13 rfl (lv_at hl 2 rfl) ?_
        obtain ⟨z14_7, hz14_7, hf⟩ := bd_some hf
        refine cVi (rest := []) ⟨hx, hb, hml, hown, hts⟩ hE hK hP hD hS hA (c_X2_isRock l D cI cJ cZ en q_t q_t_ground q_t_windows q_t_lawParts H.size v_t_columns v_t_rows v_t_fade v_t_laws v_t_nightHours v_t_nightTimes v_t_ground v_t_windows v_t_lawParts x2_2 hz14_7) (gv_X2_isRock w_623) hd_X2_isRock ⟨rfl, rfl⟩ ⟨by decide, by decide⟩ [0, 1, 2, 3] rfl rfl rfl 2 rfl rfl 0 rfl  hl rfl (Nat.le_of_ble_eq_true rfl) ⟨Nat.zero_le _, Nat.zero_le _⟩ dX2_rocks_14 (fun H locs hP hD hS => ?_)
        have hP : va_P D vwCl [(q_t, .inr (2, [.int v_t_columns, .int v_t_rows, .int v_t_fade, .int v_t_laws, .int v_t_nightHours, .int v_t_nightTimes, .ref q_t_ground, .ref q_t_windows, .ref q_t_lawParts])), (q_t_ground, .inl (cI, 36, .inl v_t_ground)), (q_t_windows, .inl (cI, 6, .inl v_t_windows)), (q_t_lawParts, .inl (cI, 18, .inl v_t_lawParts))] H := hP
        have hD : va_D A [(q_t, .inr (2, [.int v_t_columns, .int v_t_rows, .int v_t_fade, .int v_t_laws, .int v_t_nightHours, .int v_t_nightTimes, .ref q_t_ground, .ref q_t_windows, .ref q_t_lawParts])), (q_t_ground, .inl (cI, 36, .inl v_t_ground)), (q_t_windows, .inl (cI, 6, .inl v_t_windows)), (q_t_lawParts, .inl (cI, 18, .inl v_t_lawParts))] := hD
        have J23_9 : ∀ (x1_8 : Int32), f_X2_rocks_J23 (f_X2_rocks_L4 v_t_columns v_t_rows v_t_ground n) x1_8 x2_2 = some z → ∀ (H : Heap) (locs : List Loc) (ls : Array Slot), va_P D vwCl [(q_t, .inr (2, [.int v_t_columns, .int v_t_rows, .int v_t_fade, .int v_t_laws, .int v_t_nightHours, .int v_t_nightTimes, .ref q_t_ground, .ref q_t_windows, .ref q_t_lawParts])), (q_t_ground, .inl (cI, 36, .inl v_t_ground)), (q_t_windows, .inl (cI, 6, .inl v_t_windows)), (q_t_lawParts, .inl (cI, 18, .inl v_t_lawParts))] H → va_D A [(q_t, .inr (2, [.int v_t_columns, .int v_t_rows, .int v_t_fade, .int v_t_laws, .int v_t_nightHours, .int v_t_nightTimes, .ref q_t_ground, .ref q_t_windows, .ref q_t_lawParts])), (q_t_ground, .inl (cI, 36, .inl v_t_ground)), (q_t_windows, .inl (cI, 6, .inl v_t_windows)), (q_t_lawParts, .inl (cI, 18, .inl v_t_lawParts))] → va_S A s.heap H locs → lv_has ls 3 [(0, .ref q_t), (1, .int x1_8), (2, .int x2_2)] → W p l e ({ frames := 2, cells := 0, slots := 0, locals := 42 } : Room) s m ([.ref q_t] : List Value).toArray below meth c H locs 0 0 (MQ below (QI D cI cJ cZ [(q_t, .inr (2, [.int v_t_columns, .int v_t_rows, .int v_t_fade, .int v_t_laws, .int v_t_nightHours, .int v_t_nightTimes, .ref q_t_ground, .ref q_t_windows, .ref q_t_lawParts])), (q_t_ground, .inl (cI, 36, .inl v_t_ground)), (q_t_windows, .inl (cI, 6, .inl v_t_windows)), (q_t_lawParts, .inl (cI, 18, .inl v_t_lawParts))] z A) ([.ref q_t] : List Value).toArray s 0 0 A) (F0 m 23 ls []) := by
          intro x1_8 hf H locs ls hP hD hS hl
          unfold f_X2_rocks_J23 at hf
          refine lv_iinc (v := (x2_2 + 1)) (lv' := [(2, .int (x2_2 + 1)), (0, .ref q_t), (1, .int x1_8)]) hx hb dX2_rocks_23 hl (k := 2) rfl rfl (by decide) rfl (fun ls hl => ?_)
          refine lv_goto (tgt := 4) hx hb dX2_rocks_26 (by decide) ?_
          exact ih_4 x1_8 (x2_2 + 1) hf _ _ _ hP hD hS (lv_sub hl [1, 2, 0] rfl)
        refine lv_if_eq (tgt := 23) hx hb dX2_rocks_17 (by decide) (fun h_10 => ?_) (fun h_10 => ?_)
        · have hf := (if_pos h_10).symm.trans hf
          exact J23_9 x1_1 hf _ _ _ hP hD hS (lv_sub hl [0, 1, 2] rfl)
        · have hf := (if_neg h_10).symm.trans hf
          refine lv_iinc (v := (x1_1 + 1)) (lv' := [(1, .int (x1_1 + 1)), (0, .ref q_t), (2, .int x2_2)]) hx hb dX2_rocks_20 hl (k := 1) rfl rfl (by decide) rfl (fun ls hl => ?_)
          exact J23_9 (x1_1 + 1) hf _ _ _ hP hD hS (lv_sub hl [1, 0, 2] rfl)
  exact L4_3 FU 0 0 hf _ _ _ hP hD hS (lv_sub hl [2, 1, 0] rfl)

def f_X2_putFloor (v_t_columns : Int32) (v_t_rows : Int32) (v_t_ground : Nat → Int32) (x1 : Int32) : Option ((Nat → Int32)) :=
  (f_X2_has v_t_columns v_t_rows x1).bind (fun z2 => (if z2 = 0 then (some v_t_ground) else gd (ib x1 36) ((some (upd v_t_ground (Int32.toNatClampNeg x1) (-1))))))
theorem gv_X2_putFloor {own : String} {idx : Nat} (h : Cond.methodLink own idx yX2_putFloor ∈ lw_g) : GoodIn lw_g (wsV own idx RX2 yX2_putFloor (Cond.code yX2_putFloor cX2_putFloor 2 none :: lw_g)) := gV h w_481 w_482 w_60 w_483
theorem hd_X2_putFloor : yX2_putFloor.cls = RX2 ∧ yX2_putFloor.cls ≠ "java/lang/invoke/MethodHandle" ∧ yX2_putFloor.cls ≠ "java/lang/invoke/VarHandle" ∧ (parseMethodDescriptor yX2_putFloor.desc).map (fun d => d.parameters.length) = some 1 := by decide +kernel
set_option maxHeartbeats 4000000 in
set_option maxRecDepth 100000 in
theorem c_X2_putFloor (l : Launch) (D : va_G) (cI cJ cZ : ClassId) (en : EnT) (q_t q_t_ground q_t_windows q_t_lawParts : Nat) (sz : Nat) (v_t_columns : Int32) (v_t_rows : Int32) (v_t_fade : Int32) (v_t_laws : Int32) (v_t_nightHours : Int32) (v_t_nightTimes : Int32) (v_t_ground : Nat → Int32) (v_t_windows : Nat → Int32) (v_t_lawParts : Nat → Int32) (x1 : Int32) {z : (Nat → Int32)} (hf : f_X2_putFloor v_t_columns v_t_rows v_t_ground x1 = some z) : Met l yX2_putFloor (Cond.code yX2_putFloor cX2_putFloor 2 none :: lw_g) ({ frames := 1, cells := 0, slots := 0, locals := 21 } : Room) (PC D cI cJ cZ en ([.ref q_t, .int x1] : List Value) [(q_t, .inr (2, [.int v_t_columns, .int v_t_rows, .int v_t_fade, .int v_t_laws, .int v_t_nightHours, .int v_t_nightTimes, .ref q_t_ground, .ref q_t_windows, .ref q_t_lawParts])), (q_t_ground, .inl (cI, 36, .inl v_t_ground)), (q_t_windows, .inl (cI, 6, .inl v_t_windows)), (q_t_lawParts, .inl (cI, 18, .inl v_t_lawParts))] sz) (QV D cI cJ cZ [(q_t, .inr (2, [.int v_t_columns, .int v_t_rows, .int v_t_fade, .int v_t_laws, .int v_t_nightHours, .int v_t_nightTimes, .ref q_t_ground, .ref q_t_windows, .ref q_t_lawParts])), (q_t_ground, .inl (cI, 36, .inl z)), (q_t_windows, .inl (cI, 6, .inl v_t_windows)), (q_t_lawParts, .inl (cI, 18, .inl v_t_lawParts))] (va_A [(q_t, .inr (2, [.int v_t_columns, .int v_t_rows, .int v_t_fade, .int v_t_laws, .int v_t_nightHours, .int v_t_nightTimes, .ref q_t_ground, .ref q_t_windows, .ref q_t_lawParts])), (q_t_ground, .inl (cI, 36, .inl v_t_ground)), (q_t_windows, .inl (cI, 6, .inl v_t_windows)), (q_t_lawParts, .inl (cI, 18, .inl v_t_lawParts))] sz)) 0 0 (va_A [(q_t, .inr (2, [.int v_t_columns, .int v_t_rows, .int v_t_fade, .int v_t_laws, .int v_t_nightHours, .int v_t_nightTimes, .ref q_t_ground, .ref q_t_windows, .ref q_t_lawParts])), (q_t_ground, .inl (cI, 36, .inl v_t_ground)), (q_t_windows, .inl (cI, 6, .inl v_t_windows)), (q_t_lawParts, .inl (cI, 18, .inl v_t_lawParts))] sz) := by
  refine mk_met (Qc := fun A => (QV D cI cJ cZ [(q_t, .inr (2, [.int v_t_columns, .int v_t_rows, .int v_t_fade, .int v_t_laws, .int v_t_nightHours, .int v_t_nightTimes, .ref q_t_ground, .ref q_t_windows, .ref q_t_lawParts])), (q_t_ground, .inl (cI, 36, .inl z)), (q_t_windows, .inl (cI, 6, .inl v_t_windows)), (q_t_lawParts, .inl (cI, 18, .inl v_t_lawParts))] A)) RX2 (by decide) rfl (Nat.le_of_ble_eq_true rfl) ?_
  intro p e s m below meth c ls A hx hb hr hml hown hts hlocks hA hK hE hl hD H locs hP hS
  have hl : lv_has ls 2 [(0, .ref q_t), (1, .int x1)] := hl
  unfold f_X2_putFloor at hf
  refine lv_aload_n hx hb dX2_putFloor_0 rfl (lv_at hl 0 rfl) ?_
  refine lv_iload_n hx hb dX2_putFloor_1 rfl (lv_at hl 1 rfl) ?_
  obtain ⟨z2_1, hz2_1, hf⟩ := bd_some hf
  refine cVi (rest := []) ⟨hx, hb, hml, hown, hts⟩ hE hK hP hD hS hA (c_X2_has l D cI cJ cZ en q_t q_t_ground q_t_windows q_t_lawParts H.size v_t_columns v_t_rows v_t_fade v_t_laws v_t_nightHours v_t_nightTimes v_t_ground v_t_windows v_t_lawParts x1 hz2_1) (gv_X2_has w_464) hd_X2_has ⟨rfl, rfl⟩ ⟨by decide, by decide⟩ [0, 1, 2, 3] rfl rfl rfl 2 rfl rfl 0 rfl  hl rfl (Nat.le_of_ble_eq_true rfl) ⟨Nat.zero_le _, Nat.zero_le _⟩ dX2_putFloor_2 (fun H locs hP hD hS => ?_)
  have hP : va_P D vwCl [(q_t, .inr (2, [.int v_t_columns, .int v_t_rows, .int v_t_fade, .int v_t_laws, .int v_t_nightHours, .int v_t_nightTimes, .ref q_t_ground, .ref q_t_windows, .ref q_t_lawParts])), (q_t_ground, .inl (cI, 36, .inl v_t_ground)), (q_t_windows, .inl (cI, 6, .inl v_t_windows)), (q_t_lawParts, .inl (cI, 18, .inl v_t_lawParts))] H := hP
  have hD : va_D A [(q_t, .inr (2, [.int v_t_columns, .int v_t_rows, .int v_t_fade, .int v_t_laws, .int v_t_nightHours, .int v_t_nightTimes, .ref q_t_ground, .ref q_t_windows, .ref q_t_lawParts])), (q_t_ground, .inl (cI, 36, .inl v_t_ground)), (q_t_windows, .inl (cI, 6, .inl v_t_windows)), (q_t_lawParts, .inl (cI, 18, .inl v_t_lawParts))] := hD
  refine lv_if_eq (tgt := 15) hx hb dX2_putFloor_5 (by decide) (fun h_2 => ?_) (fun h_2 => ?_)
  · have hf := (if_pos h_2).symm.trans hf
    cases hf
    exact rt_v hx hb hr hlocks hK hP hS dX2_putFloor_15
  · have hf := (if_neg h_2).symm.trans hf
    refine lv_aload_n hx hb dX2_putFloor_8 rfl (lv_at hl 0 rfl) ?_
    refine va_get (D := D) (ci := 2) (v := .ref q_t_ground) (C := RX2) (T := TX2) (N := 9) hx hb hts inX2 hown hK hP 0 rfl rfl 6 (by decide) (hts _ w_150) (fun _ h9 => h9) rfl dX2_putFloor_9 ?_
    refine lv_iload_n hx hb dX2_putFloor_12 rfl (lv_at hl 1 rfl) ?_
    refine lv_iconst (v := (-1)) hx hb dX2_putFloor_13 (by decide) ?_
    obtain ⟨hin, hf⟩ := gd_some hf
    refine va_iast hx hb hK hP hD hS 1 0 rfl rfl hin dX2_putFloor_14 (fun H locs hP hD hS => ?_)
    have hP : va_P D vwCl [(q_t, .inr (2, [.int v_t_columns, .int v_t_rows, .int v_t_fade, .int v_t_laws, .int v_t_nightHours, .int v_t_nightTimes, .ref q_t_ground, .ref q_t_windows, .ref q_t_lawParts])), (q_t_ground, .inl (cI, 36, .inl (upd v_t_ground (Int32.toNatClampNeg x1) (-1)))), (q_t_windows, .inl (cI, 6, .inl v_t_windows)), (q_t_lawParts, .inl (cI, 18, .inl v_t_lawParts))] H := hP
    have hD : va_D A [(q_t, .inr (2, [.int v_t_columns, .int v_t_rows, .int v_t_fade, .int v_t_laws, .int v_t_nightHours, .int v_t_nightTimes, .ref q_t_ground, .ref q_t_windows, .ref q_t_lawParts])), (q_t_ground, .inl (cI, 36, .inl (upd v_t_ground (Int32.toNatClampNeg x1) (-1)))), (q_t_windows, .inl (cI, 6, .inl v_t_windows)), (q_t_lawParts, .inl (cI, 18, .inl v_t_lawParts))] := hD
    cases hf
    exact rt_v hx hb hr hlocks hK hP hS dX2_putFloor_15

def f_X2_putRock_J41 (rc18 : (Int32) → (Nat → Int32) → Option ((Nat → Int32) × (Nat → Int32))) (v_t_windows : Nat → Int32) (x3 : Int32) : Option ((Nat → Int32) × (Nat → Int32)) :=
  (rc18 (x3 + 1) v_t_windows)
def f_X2_putRock_L18 (v_t_ground : Nat → Int32) (x1 : Int32) : Nat → (Int32) → (Nat → Int32) → Option ((Nat → Int32) × (Nat → Int32))
  | 0, _, _ => none
  | n + 1, x3, v_t_windows => (if 6 ≤ x3 then (some (v_t_ground, v_t_windows)) else gd (ib x3 6) ((if (v_t_windows (Int32.toNatClampNeg x3)) = x1 then gd (ib x3 6) ((f_X2_putRock_J41 (f_X2_putRock_L18 v_t_ground x1 n) (upd v_t_windows (Int32.toNatClampNeg x3) (-1)) x3)) else (f_X2_putRock_J41 (f_X2_putRock_L18 v_t_ground x1 n) v_t_windows x3))))
def f_X2_putRock (v_t_columns : Int32) (v_t_rows : Int32) (v_t_ground : Nat → Int32) (v_t_windows : Nat → Int32) (x1 : Int32) (x2 : Int32) : Option ((Nat → Int32) × (Nat → Int32)) :=
  (f_X2_has v_t_columns v_t_rows x1).bind (fun z2 => (if z2 = 0 then (some (v_t_ground, v_t_windows)) else gd (ib x1 36) ((f_X2_putRock_L18 (upd v_t_ground (Int32.toNatClampNeg x1) x2) x1 FU 0 v_t_windows))))
theorem gv_X2_putRock {own : String} {idx : Nat} (h : Cond.methodLink own idx yX2_putRock ∈ lw_g) : GoodIn lw_g (wsV own idx RX2 yX2_putRock (Cond.code yX2_putRock cX2_putRock 4 none :: lw_g)) := gV h w_477 w_478 w_60 w_479
theorem hd_X2_putRock : yX2_putRock.cls = RX2 ∧ yX2_putRock.cls ≠ "java/lang/invoke/MethodHandle" ∧ yX2_putRock.cls ≠ "java/lang/invoke/VarHandle" ∧ (parseMethodDescriptor yX2_putRock.desc).map (fun d => d.parameters.length) = some 2 := by decide +kernel
set_option maxHeartbeats 4000000 in
set_option maxRecDepth 100000 in
theorem c_X2_putRock (l : Launch) (D : va_G) (cI cJ cZ : ClassId) (en : EnT) (q_t q_t_ground q_t_windows q_t_lawParts : Nat) (sz : Nat) (v_t_columns : Int32) (v_t_rows : Int32) (v_t_fade : Int32) (v_t_laws : Int32) (v_t_nightHours : Int32) (v_t_nightTimes : Int32) (v_t_ground : Nat → Int32) (v_t_windows : Nat → Int32) (v_t_lawParts : Nat → Int32) (x1 : Int32) (x2 : Int32) {z : (Nat → Int32) × (Nat → Int32)} (hf : f_X2_putRock v_t_columns v_t_rows v_t_ground v_t_windows x1 x2 = some z) : Met l yX2_putRock (Cond.code yX2_putRock cX2_putRock 4 none :: lw_g) ({ frames := 1, cells := 0, slots := 0, locals := 21 } : Room) (PC D cI cJ cZ en ([.ref q_t, .int x1, .int x2] : List Value) [(q_t, .inr (2, [.int v_t_columns, .int v_t_rows, .int v_t_fade, .int v_t_laws, .int v_t_nightHours, .int v_t_nightTimes, .ref q_t_ground, .ref q_t_windows, .ref q_t_lawParts])), (q_t_ground, .inl (cI, 36, .inl v_t_ground)), (q_t_windows, .inl (cI, 6, .inl v_t_windows)), (q_t_lawParts, .inl (cI, 18, .inl v_t_lawParts))] sz) (QV D cI cJ cZ [(q_t, .inr (2, [.int v_t_columns, .int v_t_rows, .int v_t_fade, .int v_t_laws, .int v_t_nightHours, .int v_t_nightTimes, .ref q_t_ground, .ref q_t_windows, .ref q_t_lawParts])), (q_t_ground, .inl (cI, 36, .inl z.1)), (q_t_windows, .inl (cI, 6, .inl z.2)), (q_t_lawParts, .inl (cI, 18, .inl v_t_lawParts))] (va_A [(q_t, .inr (2, [.int v_t_columns, .int v_t_rows, .int v_t_fade, .int v_t_laws, .int v_t_nightHours, .int v_t_nightTimes, .ref q_t_ground, .ref q_t_windows, .ref q_t_lawParts])), (q_t_ground, .inl (cI, 36, .inl v_t_ground)), (q_t_windows, .inl (cI, 6, .inl v_t_windows)), (q_t_lawParts, .inl (cI, 18, .inl v_t_lawParts))] sz)) 0 0 (va_A [(q_t, .inr (2, [.int v_t_columns, .int v_t_rows, .int v_t_fade, .int v_t_laws, .int v_t_nightHours, .int v_t_nightTimes, .ref q_t_ground, .ref q_t_windows, .ref q_t_lawParts])), (q_t_ground, .inl (cI, 36, .inl v_t_ground)), (q_t_windows, .inl (cI, 6, .inl v_t_windows)), (q_t_lawParts, .inl (cI, 18, .inl v_t_lawParts))] sz) := by
  refine mk_met (Qc := fun A => (QV D cI cJ cZ [(q_t, .inr (2, [.int v_t_columns, .int v_t_rows, .int v_t_fade, .int v_t_laws, .int v_t_nightHours, .int v_t_nightTimes, .ref q_t_ground, .ref q_t_windows, .ref q_t_lawParts])), (q_t_ground, .inl (cI, 36, .inl z.1)), (q_t_windows, .inl (cI, 6, .inl z.2)), (q_t_lawParts, .inl (cI, 18, .inl v_t_lawParts))] A)) RX2 (by decide) rfl (Nat.le_of_ble_eq_true rfl) ?_
  intro p e s m below meth c ls A hx hb hr hml hown hts hlocks hA hK hE hl hD H locs hP hS
  have hl : lv_has ls 4 [(0, .ref q_t), (1, .int x1), (2, .int x2)] := hl
  unfold f_X2_putRock at hf
  refine lv_aload_n hx hb dX2_putRock_0 rfl (lv_at hl 0 rfl) ?_
  refine lv_iload_n hx hb dX2_putRock_1 rfl (lv_at hl 1 rfl) ?_
  obtain ⟨z2_1, hz2_1, hf⟩ := bd_some hf
  refine cVi (rest := []) ⟨hx, hb, hml, hown, hts⟩ hE hK hP hD hS hA (c_X2_has l D cI cJ cZ en q_t q_t_ground q_t_windows q_t_lawParts H.size v_t_columns v_t_rows v_t_fade v_t_laws v_t_nightHours v_t_nightTimes v_t_ground v_t_windows v_t_lawParts x1 hz2_1) (gv_X2_has w_464) hd_X2_has ⟨rfl, rfl⟩ ⟨by decide, by decide⟩ [0, 1, 2, 3] rfl rfl rfl 2 rfl rfl 0 rfl  hl rfl (Nat.le_of_ble_eq_true rfl) ⟨Nat.zero_le _, Nat.zero_le _⟩ dX2_putRock_2 (fun H locs hP hD hS => ?_)
  have hP : va_P D vwCl [(q_t, .inr (2, [.int v_t_columns, .int v_t_rows, .int v_t_fade, .int v_t_laws, .int v_t_nightHours, .int v_t_nightTimes, .ref q_t_ground, .ref q_t_windows, .ref q_t_lawParts])), (q_t_ground, .inl (cI, 36, .inl v_t_ground)), (q_t_windows, .inl (cI, 6, .inl v_t_windows)), (q_t_lawParts, .inl (cI, 18, .inl v_t_lawParts))] H := hP
  have hD : va_D A [(q_t, .inr (2, [.int v_t_columns, .int v_t_rows, .int v_t_fade, .int v_t_laws, .int v_t_nightHours, .int v_t_nightTimes, .ref q_t_ground, .ref q_t_windows, .ref q_t_lawParts])), (q_t_ground, .inl (cI, 36, .inl v_t_ground)), (q_t_windows, .inl (cI, 6, .inl v_t_windows)), (q_t_lawParts, .inl (cI, 18, .inl v_t_lawParts))] := hD
  refine lv_if_ne (tgt := 9) hx hb dX2_putRock_5 (by decide) (fun h_2 => ?_) (fun h_2 => ?_)
  · have hf := (if_neg h_2).symm.trans hf
    refine lv_aload_n hx hb dX2_putRock_9 rfl (lv_at hl 0 rfl) ?_
    refine va_get (D := D) (ci := 2) (v := .ref q_t_ground) (C := RX2) (T := TX2) (N := 9) hx hb hts inX2 hown hK hP 0 rfl rfl 6 (by decide) (hts _ w_150) (fun _ h9 => h9) rfl dX2_putRock_10 ?_
    refine lv_iload_n hx hb dX2_putRock_13 rfl (lv_at hl 1 rfl) ?_
    refine lv_iload_n hx hb dX2_putRock_14 rfl (lv_at hl 2 rfl) ?_
    obtain ⟨hin, hf⟩ := gd_some hf
    refine va_iast hx hb hK hP hD hS 1 0 rfl rfl hin dX2_putRock_15 (fun H locs hP hD hS => ?_)
    have hP : va_P D vwCl [(q_t, .inr (2, [.int v_t_columns, .int v_t_rows, .int v_t_fade, .int v_t_laws, .int v_t_nightHours, .int v_t_nightTimes, .ref q_t_ground, .ref q_t_windows, .ref q_t_lawParts])), (q_t_ground, .inl (cI, 36, .inl (upd v_t_ground (Int32.toNatClampNeg x1) x2))), (q_t_windows, .inl (cI, 6, .inl v_t_windows)), (q_t_lawParts, .inl (cI, 18, .inl v_t_lawParts))] H := hP
    have hD : va_D A [(q_t, .inr (2, [.int v_t_columns, .int v_t_rows, .int v_t_fade, .int v_t_laws, .int v_t_nightHours, .int v_t_nightTimes, .ref q_t_ground, .ref q_t_windows, .ref q_t_lawParts])), (q_t_ground, .inl (cI, 36, .inl (upd v_t_ground (Int32.toNatClampNeg x1) x2))), (q_t_windows, .inl (cI, 6, .inl v_t_windows)), (q_t_lawParts, .inl (cI, 18, .inl v_t_lawParts))] := hD
    refine lv_iconst (v := 0) hx hb dX2_putRock_16 (by decide) ?_
    refine lv_istore_n (lv' := [(3, .int 0), (0, .ref q_t), (1, .int x1), (2, .int x2)]) hx hb dX2_putRock_17 rfl hl (by decide) rfl (fun ls hl => ?_)
    have L18_5 : ∀ (n : Nat) (x3_3 : Int32) (v_t_windows_4 : Nat → Int32), f_X2_putRock_L18 (upd v_t_ground (Int32.toNatClampNeg x1) x2) x1 n x3_3 v_t_windows_4 = some z → ∀ (H : Heap) (locs : List Loc) (ls : Array Slot), va_P D vwCl [(q_t, .inr (2, [.int v_t_columns, .int v_t_rows, .int v_t_fade, .int v_t_laws, .int v_t_nightHours, .int v_t_nightTimes, .ref q_t_ground, .ref q_t_windows, .ref q_t_lawParts])), (q_t_ground, .inl (cI, 36, .inl (upd v_t_ground (Int32.toNatClampNeg x1) x2))), (q_t_windows, .inl (cI, 6, .inl v_t_windows_4)), (q_t_lawParts, .inl (cI, 18, .inl v_t_lawParts))] H → va_D A [(q_t, .inr (2, [.int v_t_columns, .int v_t_rows, .int v_t_fade, .int v_t_laws, .int v_t_nightHours, .int v_t_nightTimes, .ref q_t_ground, .ref q_t_windows, .ref q_t_lawParts])), (q_t_ground, .inl (cI, 36, .inl (upd v_t_ground (Int32.toNatClampNeg x1) x2))), (q_t_windows, .inl (cI, 6, .inl v_t_windows_4)), (q_t_lawParts, .inl (cI, 18, .inl v_t_lawParts))] → va_S A s.heap H locs → lv_has ls 4 [(0, .ref q_t), (1, .int x1), (3, .int x3_3)] → W p l e ({ frames := 1, cells := 0, slots := 0, locals := 21 } : Room) s m ([.ref q_t, .int x1, .int x2] : List Value).toArray below meth c H locs 0 0 (MQ below (QV D cI cJ cZ [(q_t, .inr (2, [.int v_t_columns, .int v_t_rows, .int v_t_fade, .int v_t_laws, .int v_t_nightHours, .int v_t_nightTimes, .ref q_t_ground, .ref q_t_windows, .ref q_t_lawParts])), (q_t_ground, .inl (cI, 36, .inl z.1)), (q_t_windows, .inl (cI, 6, .inl z.2)), (q_t_lawParts, .inl (cI, 18, .inl v_t_lawParts))] A) ([.ref q_t, .int x1, .int x2] : List Value).toArray s 0 0 A) (F0 m 18 ls []) := by
      intro n
      induction n with
      | zero =>
        intro x3_3 v_t_windows_4 hf
        cases hf
      | succ n ih_6 =>
        intro x3_3 v_t_windows_4 hf H locs ls hP hD hS hl
        rw [f_X2_putRock_L18] at hf
        refine lv_iload_n hx hb dX2_putRock_18 rfl (lv_at hl 2 rfl) ?_
        refine lv_bipush (v := 6) hx hb dX2_putRock_19 (by decide) ?_
        refine lv_icmp_ge (tgt := 47) hx hb dX2_putRock_21 (by decide) (fun h_7 => ?_) (fun h_7 => ?_)
        · have hf := (if_pos h_7).symm.trans hf
          cases hf
          exact rt_v hx hb hr hlocks hK hP hS dX2_putRock_47
        · have hf := (if_neg h_7).symm.trans hf
          refine lv_aload_n hx hb dX2_putRock_24 rfl (lv_at hl 0 rfl) ?_
          refine va_get (D := D) (ci := 2) (v := .ref q_t_windows) (C := RX2) (T := TX2) (N := 9) hx hb hts inX2 hown hK hP 0 rfl rfl 7 (by decide) (hts _ w_151) (fun _ h9 => h9) rfl dX2_putRock_25 ?_
          refine lv_iload_n hx hb dX2_putRock_28 rfl (lv_at hl 2 rfl) ?_
          obtain ⟨hin, hf⟩ := gd_some hf
          refine va_iald hx hb hK hP 2 0 rfl rfl hin dX2_putRock_29 ?_
          refine lv_iload_n hx hb dX2_putRock_30 rfl (lv_at hl 1 rfl) ?_
          have J41_9 : ∀ (v_t_windows_8 : Nat → Int32), f_X2_putRock_J41 (f_X2_putRock_L18 (upd v_t_ground (Int32.toNatClampNeg x1) x2) x1 n) v_t_windows_8 x3_3 = some z → ∀ (H : Heap) (locs : List Loc) (ls : Array Slot), va_P D vwCl [(q_t, .inr (2, [.int v_t_columns, .int v_t_rows, .int v_t_fade, .int v_t_laws, .int v_t_nightHours, .int v_t_nightTimes, .ref q_t_ground, .ref q_t_windows, .ref q_t_lawParts])), (q_t_ground, .inl (cI, 36, .inl (upd v_t_ground (Int32.toNatClampNeg x1) x2))), (q_t_windows, .inl (cI, 6, .inl v_t_windows_8)), (q_t_lawParts, .inl (cI, 18, .inl v_t_lawParts))] H → va_D A [(q_t, .inr (2, [.int v_t_columns, .int v_t_rows, .int v_t_fade, .int v_t_laws, .int v_t_nightHours, .int v_t_nightTimes, .ref q_t_ground, .ref q_t_windows, .ref q_t_lawParts])), (q_t_ground, .inl (cI, 36, .inl (upd v_t_ground (Int32.toNatClampNeg x1) x2))), (q_t_windows, .inl (cI, 6, .inl v_t_windows_8)), (q_t_lawParts, .inl (cI, 18, .inl v_t_lawParts))] → va_S A s.heap H locs → lv_has ls 4 [(0, .ref q_t), (1, .int x1), (3, .int x3_3)] → W p l e ({ frames := 1, cells := 0, slots := 0, locals := 21 } : Room) s m ([.ref q_t, .int x1, .int x2] : List Value).toArray below meth c H locs 0 0 (MQ below (QV D cI cJ cZ [(q_t, .inr (2, [.int v_t_columns, .int v_t_rows, .int v_t_fade, .int v_t_laws, .int v_t_nightHours, .int v_t_nightTimes, .ref q_t_ground, .ref q_t_windows, .ref q_t_lawParts])), (q_t_ground, .inl (cI, 36, .inl z.1)), (q_t_windows, .inl (cI, 6, .inl z.2)), (q_t_lawParts, .inl (cI, 18, .inl v_t_lawParts))] A) ([.ref q_t, .int x1, .int x2] : List Value).toArray s 0 0 A) (F0 m 41 ls []) := by
            intro v_t_windows_8 hf H locs ls hP hD hS hl
            unfold f_X2_putRock_J41 at hf
            refine lv_iinc (v := (x3_3 + 1)) (lv' := [(3, .int (x3_3 + 1)), (0, .ref q_t), (1, .int x1)]) hx hb dX2_putRock_41 hl (k := 2) rfl rfl (by decide) rfl (fun ls hl => ?_)
            refine lv_goto (tgt := 18) hx hb dX2_putRock_44 (by decide) ?_
            exact ih_6 (x3_3 + 1) v_t_windows_8 hf _ _ _ hP hD hS (lv_sub hl [1, 2, 0] rfl)
          refine lv_icmp_ne (tgt := 41) hx hb dX2_putRock_31 (by decide) (fun h_10 => ?_) (fun h_10 => ?_)
          · have hf := (if_neg h_10).symm.trans hf
            exact J41_9 v_t_windows_4 hf _ _ _ hP hD hS (lv_sub hl [0, 1, 2] rfl)
          · have hf := (if_pos h_10).symm.trans hf
            refine lv_aload_n hx hb dX2_putRock_34 rfl (lv_at hl 0 rfl) ?_
            refine va_get (D := D) (ci := 2) (v := .ref q_t_windows) (C := RX2) (T := TX2) (N := 9) hx hb hts inX2 hown hK hP 0 rfl rfl 7 (by decide) (hts _ w_151) (fun _ h9 => h9) rfl dX2_putRock_35 ?_
            refine lv_iload_n hx hb dX2_putRock_38 rfl (lv_at hl 2 rfl) ?_
            refine lv_iconst (v := (-1)) hx hb dX2_putRock_39 (by decide) ?_
            obtain ⟨hin, hf⟩ := gd_some hf
            refine va_iast hx hb hK hP hD hS 2 0 rfl rfl hin dX2_putRock_40 (fun H locs hP hD hS => ?_)
            have hP : va_P D vwCl [(q_t, .inr (2, [.int v_t_columns, .int v_t_rows, .int v_t_fade, .int v_t_laws, .int v_t_nightHours, .int v_t_nightTimes, .ref q_t_ground, .ref q_t_windows, .ref q_t_lawParts])), (q_t_ground, .inl (cI, 36, .inl (upd v_t_ground (Int32.toNatClampNeg x1) x2))), (q_t_windows, .inl (cI, 6, .inl (upd v_t_windows_4 (Int32.toNatClampNeg x3_3) (-1)))), (q_t_lawParts, .inl (cI, 18, .inl v_t_lawParts))] H := hP
            have hD : va_D A [(q_t, .inr (2, [.int v_t_columns, .int v_t_rows, .int v_t_fade, .int v_t_laws, .int v_t_nightHours, .int v_t_nightTimes, .ref q_t_ground, .ref q_t_windows, .ref q_t_lawParts])), (q_t_ground, .inl (cI, 36, .inl (upd v_t_ground (Int32.toNatClampNeg x1) x2))), (q_t_windows, .inl (cI, 6, .inl (upd v_t_windows_4 (Int32.toNatClampNeg x3_3) (-1)))), (q_t_lawParts, .inl (cI, 18, .inl v_t_lawParts))] := hD
            exact J41_9 (upd v_t_windows_4 (Int32.toNatClampNeg x3_3) (-1)) hf _ _ _ hP hD hS (lv_sub hl [0, 1, 2] rfl)
    exact L18_5 FU 0 v_t_windows hf _ _ _ hP hD hS (lv_sub hl [1, 2, 0] rfl)
  · have hf := (if_pos h_2).symm.trans hf
    cases hf
    exact rt_v hx hb hr hlocks hK hP hS dX2_putRock_8

def f_X2_flip (v_t_columns : Int32) (v_t_rows : Int32) (v_t_ground : Nat → Int32) (v_t_windows : Nat → Int32) (x1 : Int32) : Option ((Nat → Int32) × (Nat → Int32)) :=
  (f_X2_isRock v_t_columns v_t_rows v_t_ground x1).bind (fun z2 => (if z2 = 0 then (f_X2_putRock v_t_columns v_t_rows v_t_ground v_t_windows x1 0).bind (fun z19 => (some (z19.1, z19.2))) else (f_X2_putFloor v_t_columns v_t_rows v_t_ground x1).bind (fun z10 => (some (z10, v_t_windows)))))
theorem gv_X2_flip {own : String} {idx : Nat} (h : Cond.methodLink own idx yX2_flip ∈ lw_g) : GoodIn lw_g (wsV own idx RX2 yX2_flip (Cond.code yX2_flip cX2_flip 2 none :: lw_g)) := gV h w_758 w_759 w_60 w_760
theorem hd_X2_flip : yX2_flip.cls = RX2 ∧ yX2_flip.cls ≠ "java/lang/invoke/MethodHandle" ∧ yX2_flip.cls ≠ "java/lang/invoke/VarHandle" ∧ (parseMethodDescriptor yX2_flip.desc).map (fun d => d.parameters.length) = some 1 := by decide +kernel
set_option maxHeartbeats 4000000 in
set_option maxRecDepth 100000 in
theorem c_X2_flip (l : Launch) (D : va_G) (cI cJ cZ : ClassId) (en : EnT) (q_t q_t_ground q_t_windows q_t_lawParts : Nat) (sz : Nat) (v_t_columns : Int32) (v_t_rows : Int32) (v_t_fade : Int32) (v_t_laws : Int32) (v_t_nightHours : Int32) (v_t_nightTimes : Int32) (v_t_ground : Nat → Int32) (v_t_windows : Nat → Int32) (v_t_lawParts : Nat → Int32) (x1 : Int32) {z : (Nat → Int32) × (Nat → Int32)} (hf : f_X2_flip v_t_columns v_t_rows v_t_ground v_t_windows x1 = some z) : Met l yX2_flip (Cond.code yX2_flip cX2_flip 2 none :: lw_g) ({ frames := 2, cells := 0, slots := 0, locals := 44 } : Room) (PC D cI cJ cZ en ([.ref q_t, .int x1] : List Value) [(q_t, .inr (2, [.int v_t_columns, .int v_t_rows, .int v_t_fade, .int v_t_laws, .int v_t_nightHours, .int v_t_nightTimes, .ref q_t_ground, .ref q_t_windows, .ref q_t_lawParts])), (q_t_ground, .inl (cI, 36, .inl v_t_ground)), (q_t_windows, .inl (cI, 6, .inl v_t_windows)), (q_t_lawParts, .inl (cI, 18, .inl v_t_lawParts))] sz) (QV D cI cJ cZ [(q_t, .inr (2, [.int v_t_columns, .int v_t_rows, .int v_t_fade, .int v_t_laws, .int v_t_nightHours, .int v_t_nightTimes, .ref q_t_ground, .ref q_t_windows, .ref q_t_lawParts])), (q_t_ground, .inl (cI, 36, .inl z.1)), (q_t_windows, .inl (cI, 6, .inl z.2)), (q_t_lawParts, .inl (cI, 18, .inl v_t_lawParts))] (va_A [(q_t, .inr (2, [.int v_t_columns, .int v_t_rows, .int v_t_fade, .int v_t_laws, .int v_t_nightHours, .int v_t_nightTimes, .ref q_t_ground, .ref q_t_windows, .ref q_t_lawParts])), (q_t_ground, .inl (cI, 36, .inl v_t_ground)), (q_t_windows, .inl (cI, 6, .inl v_t_windows)), (q_t_lawParts, .inl (cI, 18, .inl v_t_lawParts))] sz)) 0 0 (va_A [(q_t, .inr (2, [.int v_t_columns, .int v_t_rows, .int v_t_fade, .int v_t_laws, .int v_t_nightHours, .int v_t_nightTimes, .ref q_t_ground, .ref q_t_windows, .ref q_t_lawParts])), (q_t_ground, .inl (cI, 36, .inl v_t_ground)), (q_t_windows, .inl (cI, 6, .inl v_t_windows)), (q_t_lawParts, .inl (cI, 18, .inl v_t_lawParts))] sz) := by
  refine mk_met (Qc := fun A => (QV D cI cJ cZ [(q_t, .inr (2, [.int v_t_columns, .int v_t_rows, .int v_t_fade, .int v_t_laws, .int v_t_nightHours, .int v_t_nightTimes, .ref q_t_ground, .ref q_t_windows, .ref q_t_lawParts])), (q_t_ground, .inl (cI, 36, .inl z.1)), (q_t_windows, .inl (cI, 6, .inl z.2)), (q_t_lawParts, .inl (cI, 18, .inl v_t_lawParts))] A)) RX2 (by decide) rfl (Nat.le_of_ble_eq_true rfl) ?_
  intro p e s m below meth c ls A hx hb hr hml hown hts hlocks hA hK hE hl hD H locs hP hS
  have hl : lv_has ls 2 [(0, .ref q_t), (1, .int x1)] := hl
  unfold f_X2_flip at hf
  refine lv_aload_n hx hb dX2_flip_0 rfl (lv_at hl 0 rfl) ?_
  refine lv_iload_n hx hb dX2_flip_1 rfl (lv_at hl 1 rfl) ?_
  obtain ⟨z2_1, hz2_1, hf⟩ := bd_some hf
  refine cVi (rest := []) ⟨hx, hb, hml, hown, hts⟩ hE hK hP hD hS hA (c_X2_isRock l D cI cJ cZ en q_t q_t_ground q_t_windows q_t_lawParts H.size v_t_columns v_t_rows v_t_fade v_t_laws v_t_nightHours v_t_nightTimes v_t_ground v_t_windows v_t_lawParts x1 hz2_1) (gv_X2_isRock w_623) hd_X2_isRock ⟨rfl, rfl⟩ ⟨by decide, by decide⟩ [0, 1, 2, 3] rfl rfl rfl 2 rfl rfl 0 rfl  hl rfl (Nat.le_of_ble_eq_true rfl) ⟨Nat.zero_le _, Nat.zero_le _⟩ dX2_flip_2 (fun H locs hP hD hS => ?_)
  have hP : va_P D vwCl [(q_t, .inr (2, [.int v_t_columns, .int v_t_rows, .int v_t_fade, .int v_t_laws, .int v_t_nightHours, .int v_t_nightTimes, .ref q_t_ground, .ref q_t_windows, .ref q_t_lawParts])), (q_t_ground, .inl (cI, 36, .inl v_t_ground)), (q_t_windows, .inl (cI, 6, .inl v_t_windows)), (q_t_lawParts, .inl (cI, 18, .inl v_t_lawParts))] H := hP
  have hD : va_D A [(q_t, .inr (2, [.int v_t_columns, .int v_t_rows, .int v_t_fade, .int v_t_laws, .int v_t_nightHours, .int v_t_nightTimes, .ref q_t_ground, .ref q_t_windows, .ref q_t_lawParts])), (q_t_ground, .inl (cI, 36, .inl v_t_ground)), (q_t_windows, .inl (cI, 6, .inl v_t_windows)), (q_t_lawParts, .inl (cI, 18, .inl v_t_lawParts))] := hD
  refine lv_if_eq (tgt := 16) hx hb dX2_flip_5 (by decide) (fun h_2 => ?_) (fun h_2 => ?_)
  · have hf := (if_pos h_2).symm.trans hf
    refine lv_aload_n hx hb dX2_flip_16 rfl (lv_at hl 0 rfl) ?_
    refine lv_iload_n hx hb dX2_flip_17 rfl (lv_at hl 1 rfl) ?_
    refine lv_iconst (v := 0) hx hb dX2_flip_18 (by decide) ?_
    obtain ⟨z19_3, hz19_3, hf⟩ := bd_some hf
    refine cVv (rest := []) ⟨hx, hb, hml, hown, hts⟩ hE hK hP hD hS hA (c_X2_putRock l D cI cJ cZ en q_t q_t_ground q_t_windows q_t_lawParts H.size v_t_columns v_t_rows v_t_fade v_t_laws v_t_nightHours v_t_nightTimes v_t_ground v_t_windows v_t_lawParts x1 0 hz19_3) (gv_X2_putRock w_762) hd_X2_putRock ⟨rfl, rfl⟩ ⟨by decide, by decide⟩ [0, 1, 2, 3] rfl rfl rfl 2 rfl rfl 0 rfl  hl rfl (Nat.le_of_ble_eq_true rfl) ⟨Nat.zero_le _, Nat.zero_le _⟩ dX2_flip_19 (fun H locs hP hD hS => ?_)
    have hP : va_P D vwCl [(q_t, .inr (2, [.int v_t_columns, .int v_t_rows, .int v_t_fade, .int v_t_laws, .int v_t_nightHours, .int v_t_nightTimes, .ref q_t_ground, .ref q_t_windows, .ref q_t_lawParts])), (q_t_ground, .inl (cI, 36, .inl z19_3.1)), (q_t_windows, .inl (cI, 6, .inl z19_3.2)), (q_t_lawParts, .inl (cI, 18, .inl v_t_lawParts))] H := hP
    have hD : va_D A [(q_t, .inr (2, [.int v_t_columns, .int v_t_rows, .int v_t_fade, .int v_t_laws, .int v_t_nightHours, .int v_t_nightTimes, .ref q_t_ground, .ref q_t_windows, .ref q_t_lawParts])), (q_t_ground, .inl (cI, 36, .inl z19_3.1)), (q_t_windows, .inl (cI, 6, .inl z19_3.2)), (q_t_lawParts, .inl (cI, 18, .inl v_t_lawParts))] := hD
    cases hf
    exact rt_v hx hb hr hlocks hK hP hS dX2_flip_22
  · have hf := (if_neg h_2).symm.trans hf
    refine lv_aload_n hx hb dX2_flip_8 rfl (lv_at hl 0 rfl) ?_
    refine lv_iload_n hx hb dX2_flip_9 rfl (lv_at hl 1 rfl) ?_
    obtain ⟨z10_4, hz10_4, hf⟩ := bd_some hf
    refine cVv (rest := []) ⟨hx, hb, hml, hown, hts⟩ hE hK hP hD hS hA (c_X2_putFloor l D cI cJ cZ en q_t q_t_ground q_t_windows q_t_lawParts H.size v_t_columns v_t_rows v_t_fade v_t_laws v_t_nightHours v_t_nightTimes v_t_ground v_t_windows v_t_lawParts x1 hz10_4) (gv_X2_putFloor w_761) hd_X2_putFloor ⟨rfl, rfl⟩ ⟨by decide, by decide⟩ [0, 1, 2, 3] rfl rfl rfl 2 rfl rfl 0 rfl  hl rfl (Nat.le_of_ble_eq_true rfl) ⟨Nat.zero_le _, Nat.zero_le _⟩ dX2_flip_10 (fun H locs hP hD hS => ?_)
    have hP : va_P D vwCl [(q_t, .inr (2, [.int v_t_columns, .int v_t_rows, .int v_t_fade, .int v_t_laws, .int v_t_nightHours, .int v_t_nightTimes, .ref q_t_ground, .ref q_t_windows, .ref q_t_lawParts])), (q_t_ground, .inl (cI, 36, .inl z10_4)), (q_t_windows, .inl (cI, 6, .inl v_t_windows)), (q_t_lawParts, .inl (cI, 18, .inl v_t_lawParts))] H := hP
    have hD : va_D A [(q_t, .inr (2, [.int v_t_columns, .int v_t_rows, .int v_t_fade, .int v_t_laws, .int v_t_nightHours, .int v_t_nightTimes, .ref q_t_ground, .ref q_t_windows, .ref q_t_lawParts])), (q_t_ground, .inl (cI, 36, .inl z10_4)), (q_t_windows, .inl (cI, 6, .inl v_t_windows)), (q_t_lawParts, .inl (cI, 18, .inl v_t_lawParts))] := hD
    refine lv_goto (tgt := 22) hx hb dX2_flip_13 (by decide) ?_
    cases hf
    exact rt_v hx hb hr hlocks hK hP hS dX2_flip_22

def f_X2_place (v_t_windows : Nat → Int32) (x1 : Int32) (x2 : Int32) : Option ((Nat → Int32)) :=
  (f_X9_isPerson x1).bind (fun z1 => (if z1 = 0 then (some v_t_windows) else gd (ib x1 6) ((some (upd v_t_windows (Int32.toNatClampNeg x1) x2)))))
theorem gv_X2_place {own : String} {idx : Nat} (h : Cond.methodLink own idx yX2_place ∈ lw_g) : GoodIn lw_g (wsV own idx RX2 yX2_place (Cond.code yX2_place cX2_place 3 none :: lw_g)) := gV h w_485 w_486 w_60 w_487
theorem hd_X2_place : yX2_place.cls = RX2 ∧ yX2_place.cls ≠ "java/lang/invoke/MethodHandle" ∧ yX2_place.cls ≠ "java/lang/invoke/VarHandle" ∧ (parseMethodDescriptor yX2_place.desc).map (fun d => d.parameters.length) = some 2 := by decide +kernel
set_option maxHeartbeats 4000000 in
set_option maxRecDepth 100000 in
theorem c_X2_place (l : Launch) (D : va_G) (cI cJ cZ : ClassId) (en : EnT) (q_t q_t_ground q_t_windows q_t_lawParts : Nat) (sz : Nat) (v_t_columns : Int32) (v_t_rows : Int32) (v_t_fade : Int32) (v_t_laws : Int32) (v_t_nightHours : Int32) (v_t_nightTimes : Int32) (v_t_ground : Nat → Int32) (v_t_windows : Nat → Int32) (v_t_lawParts : Nat → Int32) (x1 : Int32) (x2 : Int32) {z : (Nat → Int32)} (hf : f_X2_place v_t_windows x1 x2 = some z) : Met l yX2_place (Cond.code yX2_place cX2_place 3 none :: lw_g) ({ frames := 1, cells := 0, slots := 0, locals := 20 } : Room) (PC D cI cJ cZ en ([.ref q_t, .int x1, .int x2] : List Value) [(q_t, .inr (2, [.int v_t_columns, .int v_t_rows, .int v_t_fade, .int v_t_laws, .int v_t_nightHours, .int v_t_nightTimes, .ref q_t_ground, .ref q_t_windows, .ref q_t_lawParts])), (q_t_ground, .inl (cI, 36, .inl v_t_ground)), (q_t_windows, .inl (cI, 6, .inl v_t_windows)), (q_t_lawParts, .inl (cI, 18, .inl v_t_lawParts))] sz) (QV D cI cJ cZ [(q_t, .inr (2, [.int v_t_columns, .int v_t_rows, .int v_t_fade, .int v_t_laws, .int v_t_nightHours, .int v_t_nightTimes, .ref q_t_ground, .ref q_t_windows, .ref q_t_lawParts])), (q_t_ground, .inl (cI, 36, .inl v_t_ground)), (q_t_windows, .inl (cI, 6, .inl z)), (q_t_lawParts, .inl (cI, 18, .inl v_t_lawParts))] (va_A [(q_t, .inr (2, [.int v_t_columns, .int v_t_rows, .int v_t_fade, .int v_t_laws, .int v_t_nightHours, .int v_t_nightTimes, .ref q_t_ground, .ref q_t_windows, .ref q_t_lawParts])), (q_t_ground, .inl (cI, 36, .inl v_t_ground)), (q_t_windows, .inl (cI, 6, .inl v_t_windows)), (q_t_lawParts, .inl (cI, 18, .inl v_t_lawParts))] sz)) 0 0 (va_A [(q_t, .inr (2, [.int v_t_columns, .int v_t_rows, .int v_t_fade, .int v_t_laws, .int v_t_nightHours, .int v_t_nightTimes, .ref q_t_ground, .ref q_t_windows, .ref q_t_lawParts])), (q_t_ground, .inl (cI, 36, .inl v_t_ground)), (q_t_windows, .inl (cI, 6, .inl v_t_windows)), (q_t_lawParts, .inl (cI, 18, .inl v_t_lawParts))] sz) := by
  refine mk_met (Qc := fun A => (QV D cI cJ cZ [(q_t, .inr (2, [.int v_t_columns, .int v_t_rows, .int v_t_fade, .int v_t_laws, .int v_t_nightHours, .int v_t_nightTimes, .ref q_t_ground, .ref q_t_windows, .ref q_t_lawParts])), (q_t_ground, .inl (cI, 36, .inl v_t_ground)), (q_t_windows, .inl (cI, 6, .inl z)), (q_t_lawParts, .inl (cI, 18, .inl v_t_lawParts))] A)) RX2 (by decide) rfl (Nat.le_of_ble_eq_true rfl) ?_
  intro p e s m below meth c ls A hx hb hr hml hown hts hlocks hA hK hE hl hD H locs hP hS
  have hl : lv_has ls 3 [(0, .ref q_t), (1, .int x1), (2, .int x2)] := hl
  unfold f_X2_place at hf
  refine lv_iload_n hx hb dX2_place_0 rfl (lv_at hl 1 rfl) ?_
  obtain ⟨z1_1, hz1_1, hf⟩ := bd_some hf
  refine cNi (host := RX9) (rest := []) ⟨hx, hb, hml, hown, hts⟩ hE hK hP hD hS hA (c_X9_isPerson l D cI cJ cZ en  H.size x1 hz1_1) w_490 (by decide +kernel) w_57 w_489 hd_X9_isPerson ⟨rfl, rfl⟩ ⟨by decide, by decide⟩ [] rfl rfl rfl  hl rfl (Nat.le_of_ble_eq_true rfl) ⟨Nat.zero_le _, Nat.zero_le _⟩ dX2_place_1 (fun H locs hP hD hS => ?_)
  have hP : va_P D vwCl [(q_t, .inr (2, [.int v_t_columns, .int v_t_rows, .int v_t_fade, .int v_t_laws, .int v_t_nightHours, .int v_t_nightTimes, .ref q_t_ground, .ref q_t_windows, .ref q_t_lawParts])), (q_t_ground, .inl (cI, 36, .inl v_t_ground)), (q_t_windows, .inl (cI, 6, .inl v_t_windows)), (q_t_lawParts, .inl (cI, 18, .inl v_t_lawParts))] H := hP
  have hD : va_D A [(q_t, .inr (2, [.int v_t_columns, .int v_t_rows, .int v_t_fade, .int v_t_laws, .int v_t_nightHours, .int v_t_nightTimes, .ref q_t_ground, .ref q_t_windows, .ref q_t_lawParts])), (q_t_ground, .inl (cI, 36, .inl v_t_ground)), (q_t_windows, .inl (cI, 6, .inl v_t_windows)), (q_t_lawParts, .inl (cI, 18, .inl v_t_lawParts))] := hD
  refine lv_if_eq (tgt := 14) hx hb dX2_place_4 (by decide) (fun h_2 => ?_) (fun h_2 => ?_)
  · have hf := (if_pos h_2).symm.trans hf
    cases hf
    exact rt_v hx hb hr hlocks hK hP hS dX2_place_14
  · have hf := (if_neg h_2).symm.trans hf
    refine lv_aload_n hx hb dX2_place_7 rfl (lv_at hl 0 rfl) ?_
    refine va_get (D := D) (ci := 2) (v := .ref q_t_windows) (C := RX2) (T := TX2) (N := 9) hx hb hts inX2 hown hK hP 0 rfl rfl 7 (by decide) (hts _ w_151) (fun _ h9 => h9) rfl dX2_place_8 ?_
    refine lv_iload_n hx hb dX2_place_11 rfl (lv_at hl 1 rfl) ?_
    refine lv_iload_n hx hb dX2_place_12 rfl (lv_at hl 2 rfl) ?_
    obtain ⟨hin, hf⟩ := gd_some hf
    refine va_iast hx hb hK hP hD hS 2 0 rfl rfl hin dX2_place_13 (fun H locs hP hD hS => ?_)
    have hP : va_P D vwCl [(q_t, .inr (2, [.int v_t_columns, .int v_t_rows, .int v_t_fade, .int v_t_laws, .int v_t_nightHours, .int v_t_nightTimes, .ref q_t_ground, .ref q_t_windows, .ref q_t_lawParts])), (q_t_ground, .inl (cI, 36, .inl v_t_ground)), (q_t_windows, .inl (cI, 6, .inl (upd v_t_windows (Int32.toNatClampNeg x1) x2))), (q_t_lawParts, .inl (cI, 18, .inl v_t_lawParts))] H := hP
    have hD : va_D A [(q_t, .inr (2, [.int v_t_columns, .int v_t_rows, .int v_t_fade, .int v_t_laws, .int v_t_nightHours, .int v_t_nightTimes, .ref q_t_ground, .ref q_t_windows, .ref q_t_lawParts])), (q_t_ground, .inl (cI, 36, .inl v_t_ground)), (q_t_windows, .inl (cI, 6, .inl (upd v_t_windows (Int32.toNatClampNeg x1) x2))), (q_t_lawParts, .inl (cI, 18, .inl v_t_lawParts))] := hD
    cases hf
    exact rt_v hx hb hr hlocks hK hP hS dX2_place_14

def f_X2_personsSomewhere_J26 (rc4 : (Int32) → (Int32) → Option (Int32)) (x1 : Int32) (x2 : Int32) : Option (Int32) :=
  (rc4 x1 (x2 + 1))
def f_X2_personsSomewhere_L4 (v_t_windows : Nat → Int32) : Nat → (Int32) → (Int32) → Option (Int32)
  | 0, _, _ => none
  | n + 1, x1, x2 => (if 6 ≤ x2 then (some x1) else gd (ib x2 6) ((if (v_t_windows (Int32.toNatClampNeg x2)) = (-1) then (f_X2_personsSomewhere_J26 (f_X2_personsSomewhere_L4 v_t_windows n) x1 x2) else (f_X2_personsSomewhere_J26 (f_X2_personsSomewhere_L4 v_t_windows n) (x1 ||| (1 <<< (x2 &&& 31))) x2))))
def f_X2_personsSomewhere (v_t_windows : Nat → Int32) : Option (Int32) :=
  (f_X2_personsSomewhere_L4 v_t_windows FU 0 0)
theorem gv_X2_personsSomewhere {own : String} {idx : Nat} (h : Cond.methodLink own idx yX2_personsSomewhere ∈ lw_g) : GoodIn lw_g (wsV own idx RX2 yX2_personsSomewhere (Cond.code yX2_personsSomewhere cX2_personsSomewhere 3 (some .int) :: lw_g)) := gV h w_896 w_897 w_60 w_898
theorem hd_X2_personsSomewhere : yX2_personsSomewhere.cls = RX2 ∧ yX2_personsSomewhere.cls ≠ "java/lang/invoke/MethodHandle" ∧ yX2_personsSomewhere.cls ≠ "java/lang/invoke/VarHandle" ∧ (parseMethodDescriptor yX2_personsSomewhere.desc).map (fun d => d.parameters.length) = some 0 := by decide +kernel
set_option maxHeartbeats 4000000 in
set_option maxRecDepth 100000 in
theorem c_X2_personsSomewhere (l : Launch) (D : va_G) (cI cJ cZ : ClassId) (en : EnT) (q_t q_t_ground q_t_windows q_t_lawParts : Nat) (sz : Nat) (v_t_columns : Int32) (v_t_rows : Int32) (v_t_fade : Int32) (v_t_laws : Int32) (v_t_nightHours : Int32) (v_t_nightTimes : Int32) (v_t_ground : Nat → Int32) (v_t_windows : Nat → Int32) (v_t_lawParts : Nat → Int32) {z : Int32} (hf : f_X2_personsSomewhere v_t_windows = some z) : Met l yX2_personsSomewhere (Cond.code yX2_personsSomewhere cX2_personsSomewhere 3 (some .int) :: lw_g) ({ frames := 0, cells := 0, slots := 0, locals := 0 } : Room) (PC D cI cJ cZ en ([.ref q_t] : List Value) [(q_t, .inr (2, [.int v_t_columns, .int v_t_rows, .int v_t_fade, .int v_t_laws, .int v_t_nightHours, .int v_t_nightTimes, .ref q_t_ground, .ref q_t_windows, .ref q_t_lawParts])), (q_t_ground, .inl (cI, 36, .inl v_t_ground)), (q_t_windows, .inl (cI, 6, .inl v_t_windows)), (q_t_lawParts, .inl (cI, 18, .inl v_t_lawParts))] sz) (QI D cI cJ cZ [(q_t, .inr (2, [.int v_t_columns, .int v_t_rows, .int v_t_fade, .int v_t_laws, .int v_t_nightHours, .int v_t_nightTimes, .ref q_t_ground, .ref q_t_windows, .ref q_t_lawParts])), (q_t_ground, .inl (cI, 36, .inl v_t_ground)), (q_t_windows, .inl (cI, 6, .inl v_t_windows)), (q_t_lawParts, .inl (cI, 18, .inl v_t_lawParts))] z (va_A [(q_t, .inr (2, [.int v_t_columns, .int v_t_rows, .int v_t_fade, .int v_t_laws, .int v_t_nightHours, .int v_t_nightTimes, .ref q_t_ground, .ref q_t_windows, .ref q_t_lawParts])), (q_t_ground, .inl (cI, 36, .inl v_t_ground)), (q_t_windows, .inl (cI, 6, .inl v_t_windows)), (q_t_lawParts, .inl (cI, 18, .inl v_t_lawParts))] sz)) 0 0 (va_A [(q_t, .inr (2, [.int v_t_columns, .int v_t_rows, .int v_t_fade, .int v_t_laws, .int v_t_nightHours, .int v_t_nightTimes, .ref q_t_ground, .ref q_t_windows, .ref q_t_lawParts])), (q_t_ground, .inl (cI, 36, .inl v_t_ground)), (q_t_windows, .inl (cI, 6, .inl v_t_windows)), (q_t_lawParts, .inl (cI, 18, .inl v_t_lawParts))] sz) := by
  refine mk_met (Qc := fun A => (QI D cI cJ cZ [(q_t, .inr (2, [.int v_t_columns, .int v_t_rows, .int v_t_fade, .int v_t_laws, .int v_t_nightHours, .int v_t_nightTimes, .ref q_t_ground, .ref q_t_windows, .ref q_t_lawParts])), (q_t_ground, .inl (cI, 36, .inl v_t_ground)), (q_t_windows, .inl (cI, 6, .inl v_t_windows)), (q_t_lawParts, .inl (cI, 18, .inl v_t_lawParts))] z A)) RX2 (by decide) rfl (Nat.le_of_ble_eq_true rfl) ?_
  intro p e s m below meth c ls A hx hb hr hml hown hts hlocks hA hK hE hl hD H locs hP hS
  have hl : lv_has ls 3 [(0, .ref q_t)] := hl
  unfold f_X2_personsSomewhere at hf
  refine lv_iconst (v := 0) hx hb dX2_personsSomewhere_0 (by decide) ?_
  refine lv_istore_n (lv' := [(1, .int 0), (0, .ref q_t)]) hx hb dX2_personsSomewhere_1 rfl hl (by decide) rfl (fun ls hl => ?_)
  refine lv_iconst (v := 0) hx hb dX2_personsSomewhere_2 (by decide) ?_
  refine lv_istore_n (lv' := [(2, .int 0), (1, .int 0), (0, .ref q_t)]) hx hb dX2_personsSomewhere_3 rfl hl (by decide) rfl (fun ls hl => ?_)
  have L4_3 : ∀ (n : Nat) (x1_1 : Int32) (x2_2 : Int32), f_X2_personsSomewhere_L4 v_t_windows n x1_1 x2_2 = some z → ∀ (H : Heap) (locs : List Loc) (ls : Array Slot), va_P D vwCl [(q_t, .inr (2, [.int v_t_columns, .int v_t_rows, .int v_t_fade, .int v_t_laws, .int v_t_nightHours, .int v_t_nightTimes, .ref q_t_ground, .ref q_t_windows, .ref q_t_lawParts])), (q_t_ground, .inl (cI, 36, .inl v_t_ground)), (q_t_windows, .inl (cI, 6, .inl v_t_windows)), (q_t_lawParts, .inl (cI, 18, .inl v_t_lawParts))] H → va_D A [(q_t, .inr (2, [.int v_t_columns, .int v_t_rows, .int v_t_fade, .int v_t_laws, .int v_t_nightHours, .int v_t_nightTimes, .ref q_t_ground, .ref q_t_windows, .ref q_t_lawParts])), (q_t_ground, .inl (cI, 36, .inl v_t_ground)), (q_t_windows, .inl (cI, 6, .inl v_t_windows)), (q_t_lawParts, .inl (cI, 18, .inl v_t_lawParts))] → va_S A s.heap H locs → lv_has ls 3 [(0, .ref q_t), (1, .int x1_1), (2, .int x2_2)] → W p l e ({ frames := 0, cells := 0, slots := 0, locals := 0 } : Room) s m ([.ref q_t] : List Value).toArray below meth c H locs 0 0 (MQ below (QI D cI cJ cZ [(q_t, .inr (2, [.int v_t_columns, .int v_t_rows, .int v_t_fade, .int v_t_laws, .int v_t_nightHours, .int v_t_nightTimes, .ref q_t_ground, .ref q_t_windows, .ref q_t_lawParts])), (q_t_ground, .inl (cI, 36, .inl v_t_ground)), (q_t_windows, .inl (cI, 6, .inl v_t_windows)), (q_t_lawParts, .inl (cI, 18, .inl v_t_lawParts))] z A) ([.ref q_t] : List Value).toArray s 0 0 A) (F0 m 4 ls []) := by
    intro n
    induction n with
    | zero =>
      intro x1_1 x2_2 hf
      cases hf
    | succ n ih_4 =>
      intro x1_1 x2_2 hf H locs ls hP hD hS hl
      rw [f_X2_personsSomewhere_L4] at hf
      refine lv_iload_n hx hb dX2_personsSomewhere_4 rfl (lv_at hl 2 rfl) ?_
      refine lv_bipush (v := 6) hx hb dX2_personsSomewhere_5 (by decide) ?_
      refine lv_icmp_ge (tgt := 32) hx hb dX2_personsSomewhere_7 (by decide) (fun h_5 => ?_) (fun h_5 => ?_)
      · have hf := (if_pos h_5).symm.trans hf
        refine lv_iload_n hx hb dX2_personsSomewhere_32 rfl (lv_at hl 1 rfl) ?_
        cases hf
        exact rt_i hx hb hr hlocks hK hP hS dX2_personsSomewhere_33
      · have hf := (if_neg h_5).symm.trans hf
        refine lv_aload_n hx hb dX2_personsSomewhere_10 rfl (lv_at hl 0 rfl) ?_
        refine va_get (D := D) (ci := 2) (v := .ref q_t_windows) (C := RX2) (T := TX2) (N := 9) hx hb hts inX2 hown hK hP 0 rfl rfl 7 (by decide) (hts _ w_151) (fun _ h9 => h9) rfl dX2_personsSomewhere_11 ?_
        refine lv_iload_n hx hb dX2_personsSomewhere_14 rfl (lv_at hl 2 rfl) ?_
        obtain ⟨hin, hf⟩ := gd_some hf
        refine va_iald hx hb hK hP 2 0 rfl rfl hin dX2_personsSomewhere_15 ?_
        refine lv_iconst (v := (-1)) hx hb dX2_personsSomewhere_16 (by decide) ?_
        have J26_7 : ∀ (x1_6 : Int32), f_X2_personsSomewhere_J26 (f_X2_personsSomewhere_L4 v_t_windows n) x1_6 x2_2 = some z → ∀ (H : Heap) (locs : List Loc) (ls : Array Slot), va_P D vwCl [(q_t, .inr (2, [.int v_t_columns, .int v_t_rows, .int v_t_fade, .int v_t_laws, .int v_t_nightHours, .int v_t_nightTimes, .ref q_t_ground, .ref q_t_windows, .ref q_t_lawParts])), (q_t_ground, .inl (cI, 36, .inl v_t_ground)), (q_t_windows, .inl (cI, 6, .inl v_t_windows)), (q_t_lawParts, .inl (cI, 18, .inl v_t_lawParts))] H → va_D A [(q_t, .inr (2, [.int v_t_columns, .int v_t_rows, .int v_t_fade, .int v_t_laws, .int v_t_nightHours, .int v_t_nightTimes, .ref q_t_ground, .ref q_t_windows, .ref q_t_lawParts])), (q_t_ground, .inl (cI, 36, .inl v_t_ground)), (q_t_windows, .inl (cI, 6, .inl v_t_windows)), (q_t_lawParts, .inl (cI, 18, .inl v_t_lawParts))] → va_S A s.heap H locs → lv_has ls 3 [(0, .ref q_t), (1, .int x1_6), (2, .int x2_2)] → W p l e ({ frames := 0, cells := 0, slots := 0, locals := 0 } : Room) s m ([.ref q_t] : List Value).toArray below meth c H locs 0 0 (MQ below (QI D cI cJ cZ [(q_t, .inr (2, [.int v_t_columns, .int v_t_rows, .int v_t_fade, .int v_t_laws, .int v_t_nightHours, .int v_t_nightTimes, .ref q_t_ground, .ref q_t_windows, .ref q_t_lawParts])), (q_t_ground, .inl (cI, 36, .inl v_t_ground)), (q_t_windows, .inl (cI, 6, .inl v_t_windows)), (q_t_lawParts, .inl (cI, 18, .inl v_t_lawParts))] z A) ([.ref q_t] : List Value).toArray s 0 0 A) (F0 m 26 ls []) := by
          intro x1_6 hf H locs ls hP hD hS hl
          unfold f_X2_personsSomewhere_J26 at hf
          refine lv_iinc (v := (x2_2 + 1)) (lv' := [(2, .int (x2_2 + 1)), (0, .ref q_t), (1, .int x1_6)]) hx hb dX2_personsSomewhere_26 hl (k := 2) rfl rfl (by decide) rfl (fun ls hl => ?_)
          refine lv_goto (tgt := 4) hx hb dX2_personsSomewhere_29 (by decide) ?_
          exact ih_4 x1_6 (x2_2 + 1) hf _ _ _ hP hD hS (lv_sub hl [1, 2, 0] rfl)
        refine lv_icmp_eq (tgt := 26) hx hb dX2_personsSomewhere_17 (by decide) (fun h_8 => ?_) (fun h_8 => ?_)
        · have hf := (if_pos h_8).symm.trans hf
          exact J26_7 x1_1 hf _ _ _ hP hD hS (lv_sub hl [0, 1, 2] rfl)
        · have hf := (if_neg h_8).symm.trans hf
          refine lv_iload_n hx hb dX2_personsSomewhere_20 rfl (lv_at hl 1 rfl) ?_
          refine lv_iconst (v := 1) hx hb dX2_personsSomewhere_21 (by decide) ?_
          refine lv_iload_n hx hb dX2_personsSomewhere_22 rfl (lv_at hl 2 rfl) ?_
          refine lv_ishl hx hb dX2_personsSomewhere_23 ?_
          refine lv_ior hx hb dX2_personsSomewhere_24 ?_
          refine lv_istore_n (lv' := [(1, .int (x1_1 ||| (1 <<< (x2_2 &&& 31)))), (0, .ref q_t), (2, .int x2_2)]) hx hb dX2_personsSomewhere_25 rfl hl (by decide) rfl (fun ls hl => ?_)
          exact J26_7 (x1_1 ||| (1 <<< (x2_2 &&& 31))) hf _ _ _ hP hD hS (lv_sub hl [1, 0, 2] rfl)
  exact L4_3 FU 0 0 hf _ _ _ hP hD hS (lv_sub hl [2, 1, 0] rfl)

def f_X2_lawPart (v_t_laws : Int32) (v_t_lawParts : Nat → Int32) (x1 : Int32) (x2 : Int32) : Option (Int32) :=
  (if x1 < 0 then (some (-1)) else (if v_t_laws ≤ x1 then (some (-1)) else (if 6 ≤ x1 then (some (-1)) else (if x2 < 0 then (some (-1)) else (if x2 < 3 then gd (ib ((x1 * 3) + x2) 18) ((some (v_t_lawParts (Int32.toNatClampNeg ((x1 * 3) + x2))))) else (some (-1)))))))
theorem gv_X2_lawPart {own : String} {idx : Nat} (h : Cond.methodLink own idx yX2_lawPart ∈ lw_g) : GoodIn lw_g (wsV own idx RX2 yX2_lawPart (Cond.code yX2_lawPart cX2_lawPart 3 (some .int) :: lw_g)) := gV h w_564 w_565 w_60 w_566
theorem hd_X2_lawPart : yX2_lawPart.cls = RX2 ∧ yX2_lawPart.cls ≠ "java/lang/invoke/MethodHandle" ∧ yX2_lawPart.cls ≠ "java/lang/invoke/VarHandle" ∧ (parseMethodDescriptor yX2_lawPart.desc).map (fun d => d.parameters.length) = some 2 := by decide +kernel
set_option maxHeartbeats 4000000 in
set_option maxRecDepth 100000 in
theorem c_X2_lawPart (l : Launch) (D : va_G) (cI cJ cZ : ClassId) (en : EnT) (q_t q_t_ground q_t_windows q_t_lawParts : Nat) (sz : Nat) (v_t_columns : Int32) (v_t_rows : Int32) (v_t_fade : Int32) (v_t_laws : Int32) (v_t_nightHours : Int32) (v_t_nightTimes : Int32) (v_t_ground : Nat → Int32) (v_t_windows : Nat → Int32) (v_t_lawParts : Nat → Int32) (x1 : Int32) (x2 : Int32) {z : Int32} (hf : f_X2_lawPart v_t_laws v_t_lawParts x1 x2 = some z) : Met l yX2_lawPart (Cond.code yX2_lawPart cX2_lawPart 3 (some .int) :: lw_g) ({ frames := 0, cells := 0, slots := 0, locals := 0 } : Room) (PC D cI cJ cZ en ([.ref q_t, .int x1, .int x2] : List Value) [(q_t, .inr (2, [.int v_t_columns, .int v_t_rows, .int v_t_fade, .int v_t_laws, .int v_t_nightHours, .int v_t_nightTimes, .ref q_t_ground, .ref q_t_windows, .ref q_t_lawParts])), (q_t_ground, .inl (cI, 36, .inl v_t_ground)), (q_t_windows, .inl (cI, 6, .inl v_t_windows)), (q_t_lawParts, .inl (cI, 18, .inl v_t_lawParts))] sz) (QI D cI cJ cZ [(q_t, .inr (2, [.int v_t_columns, .int v_t_rows, .int v_t_fade, .int v_t_laws, .int v_t_nightHours, .int v_t_nightTimes, .ref q_t_ground, .ref q_t_windows, .ref q_t_lawParts])), (q_t_ground, .inl (cI, 36, .inl v_t_ground)), (q_t_windows, .inl (cI, 6, .inl v_t_windows)), (q_t_lawParts, .inl (cI, 18, .inl v_t_lawParts))] z (va_A [(q_t, .inr (2, [.int v_t_columns, .int v_t_rows, .int v_t_fade, .int v_t_laws, .int v_t_nightHours, .int v_t_nightTimes, .ref q_t_ground, .ref q_t_windows, .ref q_t_lawParts])), (q_t_ground, .inl (cI, 36, .inl v_t_ground)), (q_t_windows, .inl (cI, 6, .inl v_t_windows)), (q_t_lawParts, .inl (cI, 18, .inl v_t_lawParts))] sz)) 0 0 (va_A [(q_t, .inr (2, [.int v_t_columns, .int v_t_rows, .int v_t_fade, .int v_t_laws, .int v_t_nightHours, .int v_t_nightTimes, .ref q_t_ground, .ref q_t_windows, .ref q_t_lawParts])), (q_t_ground, .inl (cI, 36, .inl v_t_ground)), (q_t_windows, .inl (cI, 6, .inl v_t_windows)), (q_t_lawParts, .inl (cI, 18, .inl v_t_lawParts))] sz) := by
  refine mk_met (Qc := fun A => (QI D cI cJ cZ [(q_t, .inr (2, [.int v_t_columns, .int v_t_rows, .int v_t_fade, .int v_t_laws, .int v_t_nightHours, .int v_t_nightTimes, .ref q_t_ground, .ref q_t_windows, .ref q_t_lawParts])), (q_t_ground, .inl (cI, 36, .inl v_t_ground)), (q_t_windows, .inl (cI, 6, .inl v_t_windows)), (q_t_lawParts, .inl (cI, 18, .inl v_t_lawParts))] z A)) RX2 (by decide) rfl (Nat.le_of_ble_eq_true rfl) ?_
  intro p e s m below meth c ls A hx hb hr hml hown hts hlocks hA hK hE hl hD H locs hP hS
  have hl : lv_has ls 3 [(0, .ref q_t), (1, .int x1), (2, .int x2)] := hl
  unfold f_X2_lawPart at hf
  refine lv_iload_n hx hb dX2_lawPart_0 rfl (lv_at hl 1 rfl) ?_
  refine lv_if_lt (tgt := 27) hx hb dX2_lawPart_1 (by decide) (fun h_1 => ?_) (fun h_1 => ?_)
  · have hf := (if_pos h_1).symm.trans hf
    refine lv_iconst (v := (-1)) hx hb dX2_lawPart_27 (by decide) ?_
    cases hf
    exact rt_i hx hb hr hlocks hK hP hS dX2_lawPart_28
  · have hf := (if_neg h_1).symm.trans hf
    refine lv_iload_n hx hb dX2_lawPart_4 rfl (lv_at hl 1 rfl) ?_
    refine lv_aload_n hx hb dX2_lawPart_5 rfl (lv_at hl 0 rfl) ?_
    refine va_get (D := D) (ci := 2) (v := .int v_t_laws) (C := RX2) (T := TX2) (N := 9) hx hb hts inX2 hown hK hP 0 rfl rfl 3 (by decide) (hts _ w_143) (fun _ h9 => h9) rfl dX2_lawPart_6 ?_
    refine lv_icmp_ge (tgt := 27) hx hb dX2_lawPart_9 (by decide) (fun h_2 => ?_) (fun h_2 => ?_)
    · have hf := (if_pos h_2).symm.trans hf
      refine lv_iconst (v := (-1)) hx hb dX2_lawPart_27 (by decide) ?_
      cases hf
      exact rt_i hx hb hr hlocks hK hP hS dX2_lawPart_28
    · have hf := (if_neg h_2).symm.trans hf
      refine lv_iload_n hx hb dX2_lawPart_12 rfl (lv_at hl 1 rfl) ?_
      refine lv_bipush (v := 6) hx hb dX2_lawPart_13 (by decide) ?_
      refine lv_icmp_ge (tgt := 27) hx hb dX2_lawPart_15 (by decide) (fun h_3 => ?_) (fun h_3 => ?_)
      · have hf := (if_pos h_3).symm.trans hf
        refine lv_iconst (v := (-1)) hx hb dX2_lawPart_27 (by decide) ?_
        cases hf
        exact rt_i hx hb hr hlocks hK hP hS dX2_lawPart_28
      · have hf := (if_neg h_3).symm.trans hf
        refine lv_iload_n hx hb dX2_lawPart_18 rfl (lv_at hl 2 rfl) ?_
        refine lv_if_lt (tgt := 27) hx hb dX2_lawPart_19 (by decide) (fun h_4 => ?_) (fun h_4 => ?_)
        · have hf := (if_pos h_4).symm.trans hf
          refine lv_iconst (v := (-1)) hx hb dX2_lawPart_27 (by decide) ?_
          cases hf
          exact rt_i hx hb hr hlocks hK hP hS dX2_lawPart_28
        · have hf := (if_neg h_4).symm.trans hf
          refine lv_iload_n hx hb dX2_lawPart_22 rfl (lv_at hl 2 rfl) ?_
          refine lv_iconst (v := 3) hx hb dX2_lawPart_23 (by decide) ?_
          refine lv_icmp_lt (tgt := 29) hx hb dX2_lawPart_24 (by decide) (fun h_5 => ?_) (fun h_5 => ?_)
          · have hf := (if_pos h_5).symm.trans hf
            refine lv_aload_n hx hb dX2_lawPart_29 rfl (lv_at hl 0 rfl) ?_
            refine va_get (D := D) (ci := 2) (v := .ref q_t_lawParts) (C := RX2) (T := TX2) (N := 9) hx hb hts inX2 hown hK hP 0 rfl rfl 8 (by decide) (hts _ w_152) (fun _ h9 => h9) rfl dX2_lawPart_30 ?_
            refine lv_iload_n hx hb dX2_lawPart_33 rfl (lv_at hl 1 rfl) ?_
            refine lv_iconst (v := 3) hx hb dX2_lawPart_34 (by decide) ?_
            refine lv_imul hx hb dX2_lawPart_35 ?_
            refine lv_iload_n hx hb dX2_lawPart_36 rfl (lv_at hl 2 rfl) ?_
            refine lv_iadd hx hb dX2_lawPart_37 ?_
            obtain ⟨hin, hf⟩ := gd_some hf
            refine va_iald hx hb hK hP 3 0 rfl rfl hin dX2_lawPart_38 ?_
            cases hf
            exact rt_i hx hb hr hlocks hK hP hS dX2_lawPart_39
          · have hf := (if_neg h_5).symm.trans hf
            refine lv_iconst (v := (-1)) hx hb dX2_lawPart_27 (by decide) ?_
            cases hf
            exact rt_i hx hb hr hlocks hK hP hS dX2_lawPart_28

def f_X2_coinsFor_J37 (rc2 : (Int32) → Option (Int32)) (x3 : Int32) : Option (Int32) :=
  (rc2 (x3 + 1))
def f_X2_coinsFor_J30 (v_t_laws : Int32) (v_t_lawParts : Nat → Int32) (x3 : Int32) : Option (Int32) :=
  (f_X2_lawPart v_t_laws v_t_lawParts x3 2).bind (fun z33 => (some z33))
def f_X2_coinsFor_L2 (v_t_laws : Int32) (v_t_lawParts : Nat → Int32) (x1 : Int32) (x2 : Int32) : Nat → (Int32) → Option (Int32)
  | 0, _ => none
  | n + 1, x3 => (if v_t_laws ≤ x3 then (some 0) else (f_X2_lawPart v_t_laws v_t_lawParts x3 0).bind (fun z14 => (if x1 < z14 then (f_X2_coinsFor_J37 (f_X2_coinsFor_L2 v_t_laws v_t_lawParts x1 x2 n) x3) else (f_X2_lawPart v_t_laws v_t_lawParts x3 1).bind (fun z24 => (if x2 < z24 then (f_X2_coinsFor_J37 (f_X2_coinsFor_L2 v_t_laws v_t_lawParts x1 x2 n) x3) else (f_X2_coinsFor_J30 v_t_laws v_t_lawParts x3))))))
def f_X2_coinsFor (v_t_laws : Int32) (v_t_lawParts : Nat → Int32) (x1 : Int32) (x2 : Int32) : Option (Int32) :=
  (f_X2_coinsFor_L2 v_t_laws v_t_lawParts x1 x2 FU 0)
theorem gv_X2_coinsFor {own : String} {idx : Nat} (h : Cond.methodLink own idx yX2_coinsFor ∈ lw_g) : GoodIn lw_g (wsV own idx RX2 yX2_coinsFor (Cond.code yX2_coinsFor cX2_coinsFor 4 (some .int) :: lw_g)) := gV h w_650 w_651 w_60 w_652
theorem hd_X2_coinsFor : yX2_coinsFor.cls = RX2 ∧ yX2_coinsFor.cls ≠ "java/lang/invoke/MethodHandle" ∧ yX2_coinsFor.cls ≠ "java/lang/invoke/VarHandle" ∧ (parseMethodDescriptor yX2_coinsFor.desc).map (fun d => d.parameters.length) = some 2 := by decide +kernel
set_option maxHeartbeats 4000000 in
set_option maxRecDepth 100000 in
theorem c_X2_coinsFor (l : Launch) (D : va_G) (cI cJ cZ : ClassId) (en : EnT) (q_t q_t_ground q_t_windows q_t_lawParts : Nat) (sz : Nat) (v_t_columns : Int32) (v_t_rows : Int32) (v_t_fade : Int32) (v_t_laws : Int32) (v_t_nightHours : Int32) (v_t_nightTimes : Int32) (v_t_ground : Nat → Int32) (v_t_windows : Nat → Int32) (v_t_lawParts : Nat → Int32) (x1 : Int32) (x2 : Int32) {z : Int32} (hf : f_X2_coinsFor v_t_laws v_t_lawParts x1 x2 = some z) : Met l yX2_coinsFor (Cond.code yX2_coinsFor cX2_coinsFor 4 (some .int) :: lw_g) ({ frames := 1, cells := 0, slots := 0, locals := 22 } : Room) (PC D cI cJ cZ en ([.ref q_t, .int x1, .int x2] : List Value) [(q_t, .inr (2, [.int v_t_columns, .int v_t_rows, .int v_t_fade, .int v_t_laws, .int v_t_nightHours, .int v_t_nightTimes, .ref q_t_ground, .ref q_t_windows, .ref q_t_lawParts])), (q_t_ground, .inl (cI, 36, .inl v_t_ground)), (q_t_windows, .inl (cI, 6, .inl v_t_windows)), (q_t_lawParts, .inl (cI, 18, .inl v_t_lawParts))] sz) (QI D cI cJ cZ [(q_t, .inr (2, [.int v_t_columns, .int v_t_rows, .int v_t_fade, .int v_t_laws, .int v_t_nightHours, .int v_t_nightTimes, .ref q_t_ground, .ref q_t_windows, .ref q_t_lawParts])), (q_t_ground, .inl (cI, 36, .inl v_t_ground)), (q_t_windows, .inl (cI, 6, .inl v_t_windows)), (q_t_lawParts, .inl (cI, 18, .inl v_t_lawParts))] z (va_A [(q_t, .inr (2, [.int v_t_columns, .int v_t_rows, .int v_t_fade, .int v_t_laws, .int v_t_nightHours, .int v_t_nightTimes, .ref q_t_ground, .ref q_t_windows, .ref q_t_lawParts])), (q_t_ground, .inl (cI, 36, .inl v_t_ground)), (q_t_windows, .inl (cI, 6, .inl v_t_windows)), (q_t_lawParts, .inl (cI, 18, .inl v_t_lawParts))] sz)) 0 0 (va_A [(q_t, .inr (2, [.int v_t_columns, .int v_t_rows, .int v_t_fade, .int v_t_laws, .int v_t_nightHours, .int v_t_nightTimes, .ref q_t_ground, .ref q_t_windows, .ref q_t_lawParts])), (q_t_ground, .inl (cI, 36, .inl v_t_ground)), (q_t_windows, .inl (cI, 6, .inl v_t_windows)), (q_t_lawParts, .inl (cI, 18, .inl v_t_lawParts))] sz) := by
  refine mk_met (Qc := fun A => (QI D cI cJ cZ [(q_t, .inr (2, [.int v_t_columns, .int v_t_rows, .int v_t_fade, .int v_t_laws, .int v_t_nightHours, .int v_t_nightTimes, .ref q_t_ground, .ref q_t_windows, .ref q_t_lawParts])), (q_t_ground, .inl (cI, 36, .inl v_t_ground)), (q_t_windows, .inl (cI, 6, .inl v_t_windows)), (q_t_lawParts, .inl (cI, 18, .inl v_t_lawParts))] z A)) RX2 (by decide) rfl (Nat.le_of_ble_eq_true rfl) ?_
  intro p e s m below meth c ls A hx hb hr hml hown hts hlocks hA hK hE hl hD H locs hP hS
  have hl : lv_has ls 4 [(0, .ref q_t), (1, .int x1), (2, .int x2)] := hl
  unfold f_X2_coinsFor at hf
  refine lv_iconst (v := 0) hx hb dX2_coinsFor_0 (by decide) ?_
  refine lv_istore_n (lv' := [(3, .int 0), (0, .ref q_t), (1, .int x1), (2, .int x2)]) hx hb dX2_coinsFor_1 rfl hl (by decide) rfl (fun ls hl => ?_)
  have L2_2 : ∀ (n : Nat) (x3_1 : Int32), f_X2_coinsFor_L2 v_t_laws v_t_lawParts x1 x2 n x3_1 = some z → ∀ (H : Heap) (locs : List Loc) (ls : Array Slot), va_P D vwCl [(q_t, .inr (2, [.int v_t_columns, .int v_t_rows, .int v_t_fade, .int v_t_laws, .int v_t_nightHours, .int v_t_nightTimes, .ref q_t_ground, .ref q_t_windows, .ref q_t_lawParts])), (q_t_ground, .inl (cI, 36, .inl v_t_ground)), (q_t_windows, .inl (cI, 6, .inl v_t_windows)), (q_t_lawParts, .inl (cI, 18, .inl v_t_lawParts))] H → va_D A [(q_t, .inr (2, [.int v_t_columns, .int v_t_rows, .int v_t_fade, .int v_t_laws, .int v_t_nightHours, .int v_t_nightTimes, .ref q_t_ground, .ref q_t_windows, .ref q_t_lawParts])), (q_t_ground, .inl (cI, 36, .inl v_t_ground)), (q_t_windows, .inl (cI, 6, .inl v_t_windows)), (q_t_lawParts, .inl (cI, 18, .inl v_t_lawParts))] → va_S A s.heap H locs → lv_has ls 4 [(0, .ref q_t), (1, .int x1), (2, .int x2), (3, .int x3_1)] → W p l e ({ frames := 1, cells := 0, slots := 0, locals := 22 } : Room) s m ([.ref q_t, .int x1, .int x2] : List Value).toArray below meth c H locs 0 0 (MQ below (QI D cI cJ cZ [(q_t, .inr (2, [.int v_t_columns, .int v_t_rows, .int v_t_fade, .int v_t_laws, .int v_t_nightHours, .int v_t_nightTimes, .ref q_t_ground, .ref q_t_windows, .ref q_t_lawParts])), (q_t_ground, .inl (cI, 36, .inl v_t_ground)), (q_t_windows, .inl (cI, 6, .inl v_t_windows)), (q_t_lawParts, .inl (cI, 18, .inl v_t_lawParts))] z A) ([.ref q_t, .int x1, .int x2] : List Value).toArray s 0 0 A) (F0 m 2 ls []) := by
    intro n
    induction n with
    | zero =>
      intro x3_1 hf
      cases hf
    | succ n ih_3 =>
      intro x3_1 hf H locs ls hP hD hS hl
      rw [f_X2_coinsFor_L2] at hf
      refine lv_iload_n hx hb dX2_coinsFor_2 rfl (lv_at hl 3 rfl) ?_
      refine lv_aload_n hx hb dX2_coinsFor_3 rfl (lv_at hl 0 rfl) ?_
      refine va_get (D := D) (ci := 2) (v := .int v_t_laws) (C := RX2) (T := TX2) (N := 9) hx hb hts inX2 hown hK hP 0 rfl rfl 3 (by decide) (hts _ w_143) (fun _ h9 => h9) rfl dX2_coinsFor_4 ?_
      refine lv_icmp_ge (tgt := 43) hx hb dX2_coinsFor_7 (by decide) (fun h_4 => ?_) (fun h_4 => ?_)
      · have hf := (if_pos h_4).symm.trans hf
        refine lv_iconst (v := 0) hx hb dX2_coinsFor_43 (by decide) ?_
        cases hf
        exact rt_i hx hb hr hlocks hK hP hS dX2_coinsFor_44
      · have hf := (if_neg h_4).symm.trans hf
        refine lv_iload_n hx hb dX2_coinsFor_10 rfl (lv_at hl 1 rfl) ?_
        refine lv_aload_n hx hb dX2_coinsFor_11 rfl (lv_at hl 0 rfl) ?_
        refine lv_iload_n hx hb dX2_coinsFor_12 rfl (lv_at hl 3 rfl) ?_
        refine lv_iconst (v := 0) hx hb dX2_coinsFor_13 (by decide) ?_
        obtain ⟨z14_5, hz14_5, hf⟩ := bd_some hf
        refine cVi (rest := [.int x1]) ⟨hx, hb, hml, hown, hts⟩ hE hK hP hD hS hA (c_X2_lawPart l D cI cJ cZ en q_t q_t_ground q_t_windows q_t_lawParts H.size v_t_columns v_t_rows v_t_fade v_t_laws v_t_nightHours v_t_nightTimes v_t_ground v_t_windows v_t_lawParts x3_1 0 hz14_5) (gv_X2_lawPart w_653) hd_X2_lawPart ⟨rfl, rfl⟩ ⟨by decide, by decide⟩ [0, 1, 2, 3] rfl rfl rfl 2 rfl rfl 0 rfl  hl rfl (Nat.le_of_ble_eq_true rfl) ⟨Nat.zero_le _, Nat.zero_le _⟩ dX2_coinsFor_14 (fun H locs hP hD hS => ?_)
        have hP : va_P D vwCl [(q_t, .inr (2, [.int v_t_columns, .int v_t_rows, .int v_t_fade, .int v_t_laws, .int v_t_nightHours, .int v_t_nightTimes, .ref q_t_ground, .ref q_t_windows, .ref q_t_lawParts])), (q_t_ground, .inl (cI, 36, .inl v_t_ground)), (q_t_windows, .inl (cI, 6, .inl v_t_windows)), (q_t_lawParts, .inl (cI, 18, .inl v_t_lawParts))] H := hP
        have hD : va_D A [(q_t, .inr (2, [.int v_t_columns, .int v_t_rows, .int v_t_fade, .int v_t_laws, .int v_t_nightHours, .int v_t_nightTimes, .ref q_t_ground, .ref q_t_windows, .ref q_t_lawParts])), (q_t_ground, .inl (cI, 36, .inl v_t_ground)), (q_t_windows, .inl (cI, 6, .inl v_t_windows)), (q_t_lawParts, .inl (cI, 18, .inl v_t_lawParts))] := hD
        have J37_6 : ∀ (_ : Unit), f_X2_coinsFor_J37 (f_X2_coinsFor_L2 v_t_laws v_t_lawParts x1 x2 n) x3_1 = some z → ∀ (H : Heap) (locs : List Loc) (ls : Array Slot), va_P D vwCl [(q_t, .inr (2, [.int v_t_columns, .int v_t_rows, .int v_t_fade, .int v_t_laws, .int v_t_nightHours, .int v_t_nightTimes, .ref q_t_ground, .ref q_t_windows, .ref q_t_lawParts])), (q_t_ground, .inl (cI, 36, .inl v_t_ground)), (q_t_windows, .inl (cI, 6, .inl v_t_windows)), (q_t_lawParts, .inl (cI, 18, .inl v_t_lawParts))] H → va_D A [(q_t, .inr (2, [.int v_t_columns, .int v_t_rows, .int v_t_fade, .int v_t_laws, .int v_t_nightHours, .int v_t_nightTimes, .ref q_t_ground, .ref q_t_windows, .ref q_t_lawParts])), (q_t_ground, .inl (cI, 36, .inl v_t_ground)), (q_t_windows, .inl (cI, 6, .inl v_t_windows)), (q_t_lawParts, .inl (cI, 18, .inl v_t_lawParts))] → va_S A s.heap H locs → lv_has ls 4 [(0, .ref q_t), (1, .int x1), (2, .int x2), (3, .int x3_1)] → W p l e ({ frames := 1, cells := 0, slots := 0, locals := 22 } : Room) s m ([.ref q_t, .int x1, .int x2] : List Value).toArray below meth c H locs 0 0 (MQ below (QI D cI cJ cZ [(q_t, .inr (2, [.int v_t_columns, .int v_t_rows, .int v_t_fade, .int v_t_laws, .int v_t_nightHours, .int v_t_nightTimes, .ref q_t_ground, .ref q_t_windows, .ref q_t_lawParts])), (q_t_ground, .inl (cI, 36, .inl v_t_ground)), (q_t_windows, .inl (cI, 6, .inl v_t_windows)), (q_t_lawParts, .inl (cI, 18, .inl v_t_lawParts))] z A) ([.ref q_t, .int x1, .int x2] : List Value).toArray s 0 0 A) (F0 m 37 ls []) := by
          intro _ hf H locs ls hP hD hS hl
          unfold f_X2_coinsFor_J37 at hf
          refine lv_iinc (v := (x3_1 + 1)) (lv' := [(3, .int (x3_1 + 1)), (0, .ref q_t), (1, .int x1), (2, .int x2)]) hx hb dX2_coinsFor_37 hl (k := 3) rfl rfl (by decide) rfl (fun ls hl => ?_)
          refine lv_goto (tgt := 2) hx hb dX2_coinsFor_40 (by decide) ?_
          exact ih_3 (x3_1 + 1) hf _ _ _ hP hD hS (lv_sub hl [1, 2, 3, 0] rfl)
        refine lv_icmp_lt (tgt := 37) hx hb dX2_coinsFor_17 (by decide) (fun h_7 => ?_) (fun h_7 => ?_)
        · have hf := (if_pos h_7).symm.trans hf
          exact J37_6 () hf _ _ _ hP hD hS (lv_sub hl [0, 1, 2, 3] rfl)
        · have hf := (if_neg h_7).symm.trans hf
          refine lv_iload_n hx hb dX2_coinsFor_20 rfl (lv_at hl 2 rfl) ?_
          refine lv_aload_n hx hb dX2_coinsFor_21 rfl (lv_at hl 0 rfl) ?_
          refine lv_iload_n hx hb dX2_coinsFor_22 rfl (lv_at hl 3 rfl) ?_
          refine lv_iconst (v := 1) hx hb dX2_coinsFor_23 (by decide) ?_
          obtain ⟨z24_8, hz24_8, hf⟩ := bd_some hf
          refine cVi (rest := [.int x2]) ⟨hx, hb, hml, hown, hts⟩ hE hK hP hD hS hA (c_X2_lawPart l D cI cJ cZ en q_t q_t_ground q_t_windows q_t_lawParts H.size v_t_columns v_t_rows v_t_fade v_t_laws v_t_nightHours v_t_nightTimes v_t_ground v_t_windows v_t_lawParts x3_1 1 hz24_8) (gv_X2_lawPart w_653) hd_X2_lawPart ⟨rfl, rfl⟩ ⟨by decide, by decide⟩ [0, 1, 2, 3] rfl rfl rfl 2 rfl rfl 0 rfl  hl rfl (Nat.le_of_ble_eq_true rfl) ⟨Nat.zero_le _, Nat.zero_le _⟩ dX2_coinsFor_24 (fun H locs hP hD hS => ?_)
          have hP : va_P D vwCl [(q_t, .inr (2, [.int v_t_columns, .int v_t_rows, .int v_t_fade, .int v_t_laws, .int v_t_nightHours, .int v_t_nightTimes, .ref q_t_ground, .ref q_t_windows, .ref q_t_lawParts])), (q_t_ground, .inl (cI, 36, .inl v_t_ground)), (q_t_windows, .inl (cI, 6, .inl v_t_windows)), (q_t_lawParts, .inl (cI, 18, .inl v_t_lawParts))] H := hP
          have hD : va_D A [(q_t, .inr (2, [.int v_t_columns, .int v_t_rows, .int v_t_fade, .int v_t_laws, .int v_t_nightHours, .int v_t_nightTimes, .ref q_t_ground, .ref q_t_windows, .ref q_t_lawParts])), (q_t_ground, .inl (cI, 36, .inl v_t_ground)), (q_t_windows, .inl (cI, 6, .inl v_t_windows)), (q_t_lawParts, .inl (cI, 18, .inl v_t_lawParts))] := hD
          refine lv_icmp_lt (tgt := 37) hx hb dX2_coinsFor_27 (by decide) (fun h_9 => ?_) (fun h_9 => ?_)
          · have hf := (if_pos h_9).symm.trans hf
            exact J37_6 () hf _ _ _ hP hD hS (lv_sub hl [0, 1, 2, 3] rfl)
          · have hf := (if_neg h_9).symm.trans hf
            unfold f_X2_coinsFor_J30 at hf
            refine lv_aload_n hx hb dX2_coinsFor_30 rfl (lv_at hl 0 rfl) ?_
            refine lv_iload_n hx hb dX2_coinsFor_31 rfl (lv_at hl 3 rfl) ?_
            refine lv_iconst (v := 2) hx hb dX2_coinsFor_32 (by decide) ?_
            obtain ⟨z33_10, hz33_10, hf⟩ := bd_some hf
            refine cVi (rest := []) ⟨hx, hb, hml, hown, hts⟩ hE hK hP hD hS hA (c_X2_lawPart l D cI cJ cZ en q_t q_t_ground q_t_windows q_t_lawParts H.size v_t_columns v_t_rows v_t_fade v_t_laws v_t_nightHours v_t_nightTimes v_t_ground v_t_windows v_t_lawParts x3_1 2 hz33_10) (gv_X2_lawPart w_653) hd_X2_lawPart ⟨rfl, rfl⟩ ⟨by decide, by decide⟩ [0, 1, 2, 3] rfl rfl rfl 2 rfl rfl 0 rfl  hl rfl (Nat.le_of_ble_eq_true rfl) ⟨Nat.zero_le _, Nat.zero_le _⟩ dX2_coinsFor_33 (fun H locs hP hD hS => ?_)
            have hP : va_P D vwCl [(q_t, .inr (2, [.int v_t_columns, .int v_t_rows, .int v_t_fade, .int v_t_laws, .int v_t_nightHours, .int v_t_nightTimes, .ref q_t_ground, .ref q_t_windows, .ref q_t_lawParts])), (q_t_ground, .inl (cI, 36, .inl v_t_ground)), (q_t_windows, .inl (cI, 6, .inl v_t_windows)), (q_t_lawParts, .inl (cI, 18, .inl v_t_lawParts))] H := hP
            have hD : va_D A [(q_t, .inr (2, [.int v_t_columns, .int v_t_rows, .int v_t_fade, .int v_t_laws, .int v_t_nightHours, .int v_t_nightTimes, .ref q_t_ground, .ref q_t_windows, .ref q_t_lawParts])), (q_t_ground, .inl (cI, 36, .inl v_t_ground)), (q_t_windows, .inl (cI, 6, .inl v_t_windows)), (q_t_lawParts, .inl (cI, 18, .inl v_t_lawParts))] := hD
            cases hf
            exact rt_i hx hb hr hlocks hK hP hS dX2_coinsFor_36
  exact L2_2 FU 0 hf _ _ _ hP hD hS (lv_sub hl [1, 2, 3, 0] rfl)

def f_X2_timesIn (v_t_nightHours : Int32) (v_t_nightTimes : Int32) (x1 : Int32) : Option (Int32) :=
  (if ((v_t_nightHours >>> (x1 &&& 31)) &&& 1) = 1 then (some v_t_nightTimes) else (some 1))
theorem gv_X2_timesIn {own : String} {idx : Nat} (h : Cond.methodLink own idx yX2_timesIn ∈ lw_g) : GoodIn lw_g (wsV own idx RX2 yX2_timesIn (Cond.code yX2_timesIn cX2_timesIn 2 (some .int) :: lw_g)) := gV h w_659 w_660 w_60 w_661
theorem hd_X2_timesIn : yX2_timesIn.cls = RX2 ∧ yX2_timesIn.cls ≠ "java/lang/invoke/MethodHandle" ∧ yX2_timesIn.cls ≠ "java/lang/invoke/VarHandle" ∧ (parseMethodDescriptor yX2_timesIn.desc).map (fun d => d.parameters.length) = some 1 := by decide +kernel
set_option maxHeartbeats 4000000 in
set_option maxRecDepth 100000 in
theorem c_X2_timesIn (l : Launch) (D : va_G) (cI cJ cZ : ClassId) (en : EnT) (q_t q_t_ground q_t_windows q_t_lawParts : Nat) (sz : Nat) (v_t_columns : Int32) (v_t_rows : Int32) (v_t_fade : Int32) (v_t_laws : Int32) (v_t_nightHours : Int32) (v_t_nightTimes : Int32) (v_t_ground : Nat → Int32) (v_t_windows : Nat → Int32) (v_t_lawParts : Nat → Int32) (x1 : Int32) {z : Int32} (hf : f_X2_timesIn v_t_nightHours v_t_nightTimes x1 = some z) : Met l yX2_timesIn (Cond.code yX2_timesIn cX2_timesIn 2 (some .int) :: lw_g) ({ frames := 0, cells := 0, slots := 0, locals := 0 } : Room) (PC D cI cJ cZ en ([.ref q_t, .int x1] : List Value) [(q_t, .inr (2, [.int v_t_columns, .int v_t_rows, .int v_t_fade, .int v_t_laws, .int v_t_nightHours, .int v_t_nightTimes, .ref q_t_ground, .ref q_t_windows, .ref q_t_lawParts])), (q_t_ground, .inl (cI, 36, .inl v_t_ground)), (q_t_windows, .inl (cI, 6, .inl v_t_windows)), (q_t_lawParts, .inl (cI, 18, .inl v_t_lawParts))] sz) (QI D cI cJ cZ [(q_t, .inr (2, [.int v_t_columns, .int v_t_rows, .int v_t_fade, .int v_t_laws, .int v_t_nightHours, .int v_t_nightTimes, .ref q_t_ground, .ref q_t_windows, .ref q_t_lawParts])), (q_t_ground, .inl (cI, 36, .inl v_t_ground)), (q_t_windows, .inl (cI, 6, .inl v_t_windows)), (q_t_lawParts, .inl (cI, 18, .inl v_t_lawParts))] z (va_A [(q_t, .inr (2, [.int v_t_columns, .int v_t_rows, .int v_t_fade, .int v_t_laws, .int v_t_nightHours, .int v_t_nightTimes, .ref q_t_ground, .ref q_t_windows, .ref q_t_lawParts])), (q_t_ground, .inl (cI, 36, .inl v_t_ground)), (q_t_windows, .inl (cI, 6, .inl v_t_windows)), (q_t_lawParts, .inl (cI, 18, .inl v_t_lawParts))] sz)) 0 0 (va_A [(q_t, .inr (2, [.int v_t_columns, .int v_t_rows, .int v_t_fade, .int v_t_laws, .int v_t_nightHours, .int v_t_nightTimes, .ref q_t_ground, .ref q_t_windows, .ref q_t_lawParts])), (q_t_ground, .inl (cI, 36, .inl v_t_ground)), (q_t_windows, .inl (cI, 6, .inl v_t_windows)), (q_t_lawParts, .inl (cI, 18, .inl v_t_lawParts))] sz) := by
  refine mk_met (Qc := fun A => (QI D cI cJ cZ [(q_t, .inr (2, [.int v_t_columns, .int v_t_rows, .int v_t_fade, .int v_t_laws, .int v_t_nightHours, .int v_t_nightTimes, .ref q_t_ground, .ref q_t_windows, .ref q_t_lawParts])), (q_t_ground, .inl (cI, 36, .inl v_t_ground)), (q_t_windows, .inl (cI, 6, .inl v_t_windows)), (q_t_lawParts, .inl (cI, 18, .inl v_t_lawParts))] z A)) RX2 (by decide) rfl (Nat.le_of_ble_eq_true rfl) ?_
  intro p e s m below meth c ls A hx hb hr hml hown hts hlocks hA hK hE hl hD H locs hP hS
  have hl : lv_has ls 2 [(0, .ref q_t), (1, .int x1)] := hl
  unfold f_X2_timesIn at hf
  refine lv_aload_n hx hb dX2_timesIn_0 rfl (lv_at hl 0 rfl) ?_
  refine va_get (D := D) (ci := 2) (v := .int v_t_nightHours) (C := RX2) (T := TX2) (N := 9) hx hb hts inX2 hown hK hP 0 rfl rfl 4 (by decide) (hts _ w_146) (fun _ h9 => h9) rfl dX2_timesIn_1 ?_
  refine lv_iload_n hx hb dX2_timesIn_4 rfl (lv_at hl 1 rfl) ?_
  refine lv_ishr hx hb dX2_timesIn_5 ?_
  refine lv_iconst (v := 1) hx hb dX2_timesIn_6 (by decide) ?_
  refine lv_iand hx hb dX2_timesIn_7 ?_
  refine lv_iconst (v := 1) hx hb dX2_timesIn_8 (by decide) ?_
  refine lv_icmp_ne (tgt := 19) hx hb dX2_timesIn_9 (by decide) (fun h_1 => ?_) (fun h_1 => ?_)
  · have hf := (if_neg h_1).symm.trans hf
    refine lv_iconst (v := 1) hx hb dX2_timesIn_19 (by decide) ?_
    cases hf
    exact rt_i hx hb hr hlocks hK hP hS dX2_timesIn_20
  · have hf := (if_pos h_1).symm.trans hf
    refine lv_aload_n hx hb dX2_timesIn_12 rfl (lv_at hl 0 rfl) ?_
    refine va_get (D := D) (ci := 2) (v := .int v_t_nightTimes) (C := RX2) (T := TX2) (N := 9) hx hb hts inX2 hown hK hP 0 rfl rfl 5 (by decide) (hts _ w_148) (fun _ h9 => h9) rfl dX2_timesIn_13 ?_
    refine lv_goto (tgt := 20) hx hb dX2_timesIn_16 (by decide) ?_
    cases hf
    exact rt_i hx hb hr hlocks hK hP hS dX2_timesIn_20
